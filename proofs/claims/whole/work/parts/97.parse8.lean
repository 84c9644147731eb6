/-! frame -/
theorem pNum_k {b : Nat → Nat} {T : Nat} {t : Tok} {mo : Int32} {e : Nat × Nat} (h : pNum b T t mo = .inl e) : 1 ≤ e.1 ∧ e.1 ≤ 4 := by
  unfold pNum at h
  split at h
  · rw [← Sum.inl.inj h]; exact ⟨by dsimp only; omega, by dsimp only; omega⟩
  · split at h
    · rw [← Sum.inl.inj h]; exact ⟨by dsimp only; omega, by dsimp only; omega⟩
    · cases h
theorem pCells_k {b : Nat → Nat} {T : Nat} {t : Tok} {e : Nat × Nat} (h : pCells b T t = .inl e) : 1 ≤ e.1 ∧ e.1 ≤ 4 := by
  unfold pCells at h
  cases hp : pNum b T t 18 with
  | inl e9 => rw [hp] at h; rw [← Sum.inl.inj h]; exact pNum_k hp
  | inr u => rw [hp] at h; cases h
theorem pHole_k {b : Nat → Nat} {T : Nat} {F : Fm} {t : Tok} {e : Nat × Nat} (h : pHole b T F t = .inl e) : 1 ≤ e.1 ∧ e.1 ≤ 4 := by
  unfold pHole at h
  cases hp : pNum b T t (nI F.1) with
  | inl e9 => rw [hp] at h; rw [← Sum.inl.inj h]; exact pNum_k hp
  | inr u =>
    rw [hp] at h
    dsimp only at h
    split at h
    · rw [← Sum.inl.inj h]; exact ⟨by dsimp only; omega, by dsimp only; omega⟩
    · cases h
theorem pPin_k {b : Nat → Nat} {T : Nat} {F : Fm} {d : Nat} {t : Tok} {e : Nat × Nat} (h : pPin b T F d t = .inl e) : 1 ≤ e.1 ∧ e.1 ≤ 4 := by
  unfold pPin at h
  cases hp : pNum b T t (nI F.1 - nI d) with
  | inl e9 => rw [hp] at h; rw [← Sum.inl.inj h]; exact pNum_k hp
  | inr u =>
    rw [hp] at h
    dsimp only at h
    split at h
    · cases h
    · rw [← Sum.inl.inj h]; exact ⟨by dsimp only; omega, by dsimp only; omega⟩
theorem pPair_k {b : Nat → Nat} {T : Nat} {F : Fm} {t : Tok} {e : Nat × Nat} (h : pPair b T F t = .inl e) : 1 ≤ e.1 ∧ e.1 ≤ 4 := by
  unfold pPair at h
  split at h
  · rw [← Sum.inl.inj h]; exact ⟨by dsimp only; omega, by dsimp only; omega⟩
  · cases hp : pNum b T t 15 with
    | inl e9 => rw [hp] at h; rw [← Sum.inl.inj h]; exact pNum_k hp
    | inr u =>
      rw [hp] at h
      dsimp only at h
      split at h
      · rw [← Sum.inl.inj h]; exact ⟨by dsimp only; omega, by dsimp only; omega⟩
      · split at h
        · exact pPin_k h
        · cases h
theorem pRow_k {b : Nat → Nat} {T : Nat} {F : Fm} {t : Tok} {fi : Bool} {e : Nat × Nat} (h : pRow b T F t fi = .inl e) : 1 ≤ e.1 ∧ e.1 ≤ 4 := by
  unfold pRow at h
  split at h
  · split at h
    · exact pCells_k h
    · rw [← Sum.inl.inj h]; exact ⟨by dsimp only; omega, by dsimp only; omega⟩
  · split at h
    · exact pHole_k h
    · split at h
      · exact pPair_k h
      · rw [← Sum.inl.inj h]; exact ⟨by dsimp only; omega, by dsimp only; omega⟩
theorem pAll_k {b : Nat → Nat} {T : Nat} : ∀ (j r : Nat) (F : Fm) (t : Tok), flK (pAll b T j r F t)
  | 0, r, F, t => trivial
  | j + 1, r, F, t => by
    rw [pAll]
    split
    · exact trivial
    · cases hp : pRow b T F t (r == 0) with
      | inl e => exact pRow_k hp
      | inr q =>
        dsimp only
        split
        · exact pAll_k j (r + 1) q.1 (nxT b T q.2)
        · exact ⟨by dsimp only; omega, by dsimp only; omega⟩
section MFRAME
variable {n : Nat} {x : Nat → Nat → Int32} {w : Int64} {L : Nat → Nat → Int64} {Q : Nat → Nat → Option Nat} {D : Nat → Bool}
theorem m_zero : ∀ (j u fu : Nat) (I : Nat → Nat → Int32), u + j = 19 → j < fu → (∀ k, k < u → I 67 k = 0) → ∃ I', f_X7_frame_32 fu 64 0 (nI u) (MM n x w I L Q D) = (f_X7_goes (MM n x w I' L Q D) 64).bind (fun h1 => f_X7_frame_55 4096 64 0 h1) ∧ (∀ k, k < 19 → I' 67 k = 0) ∧ ∀ a, a ≠ 67 → I' a = I a
  | 0, u, fu, I, hu, hf, h0 => by
    obtain ⟨fu, rfl⟩ : ∃ n9, fu = n9 + 1 := ⟨fu - 1, by omega⟩
    refine ⟨I, ?_, fun k hk => h0 k (by omega), fun _ _ => rfl⟩
    rw [f_X7_frame_32, if_pos (show (19 : Int32) ≤ nI u from nI_le (a := 19) (by omega) (by omega)), o_64, if_pos tT1]
  | j + 1, u, fu, I, hu, hf, h0 => by
    obtain ⟨fu, rfl⟩ : ∃ n9, fu = n9 + 1 := ⟨fu - 1, by omega⟩
    obtain ⟨I', e1, e2, e3⟩ := m_zero j (u + 1) fu (s2 I 67 u 0) (by omega) (by omega) (fun k hk => by
      by_cases z : k = u
      · rw [z, s2_e]
      · rw [s2_ne (by omega)]; exact h0 k (by omega))
    refine ⟨I', ?_, e2, fun a ha => by rw [e3 a ha, s2_row ha]⟩
    rw [f_X7_frame_32, if_neg (show ¬ (19 : Int32) ≤ nI u from nI_ge (b := 19) (by omega) (by decide)), r_64_12, ob_s, m_set (a := 67) rfl (by omega), ob_s, nI_1]
    exact e1
theorem m_frame {I : Nat → Nat → Int32} {S : St} (hT : tL S ≤ 340) (hb : ∀ j, j < tL S → tB S j < 256) (hm : MI x I S) : ∃ x' w' I', f_X7_frame (MM n x w I L Q D) 64 = some (frA (pTxt (tB S) (tL S)), MM n x' w' I' L Q D) ∧ MI x' I' (frN (pTxt (tB S) (tL S)) S) ∧ SC x I x' I' := by
  obtain ⟨⟨k1, k2⟩, k3, k4, ⟨k5, k6⟩, k7, k8⟩ := hm
  have hX : ∃ X, X = s2 (s2 (s2 (s2 (s2 x 64 0 0) 64 3 (nI (tL S))) 64 2 0) 64 8 0) 64 4 0 := ⟨_, rfl⟩
  obtain ⟨X, eX⟩ := hX
  have X2 : X 64 2 = 0 := by rw [eX, s2_ne (by decide), s2_ne (by decide), s2_e]
  have X3 : X 64 3 = nI (tL S) := by rw [eX, s2_ne (by decide), s2_ne (by decide), s2_ne (by decide), s2_e]
  have X4 : X 64 4 = nI 0 := by rw [eX, s2_e]; rfl
  have X8 : X 64 8 = 0 := by rw [eX, s2_ne (by decide), s2_e]
  have XO : ∀ a k, ¬ (a = 64 ∧ (k = 0 ∨ k = 2 ∨ k = 3 ∨ k = 4 ∨ k = 8)) → X a k = x a k := fun a k z => by rw [eX, s2_ne (by omega), s2_ne (by omega), s2_ne (by omega), s2_ne (by omega), s2_ne (by omega)]
  obtain ⟨I1, z1, z2, z3⟩ := m_zero (n := n) (x := X) (w := w) (L := L) (Q := Q) (D := D) 19 0 4096 I (by omega) (by omega) (fun k hk => absurd hk (Nat.not_lt_zero k))
  have hb1 : ∀ j, j < tL S → tB S j < 256 ∧ I1 65 j = nI (tB S j) := fun j hj => ⟨hb j hj, by rw [z3 65 (by decide)]; exact k2 j hj⟩
  obtain ⟨x6, w6, e1, e2, e3⟩ := m_goes (n := n) (x := X) (w := w) (I := I1) (L := L) (Q := Q) (D := D) (b := tB S) (p := 0) hT (Nat.zero_le _) hb1 X4 X3
  have ok := nxT_ok (b := tB S) (T := tL S) (t := (0, 0, 0, 0)) (Nat.zero_le _)
  have hmp : MP (tB S) (tL S) (0, 0, 0, fun _ => 0) (nxT (tB S) (tL S) (0, 0, 0, 0)) x6 w6 I1 := ⟨by rw [e3 64 3 (by omega), X3], by rw [e3 64 8 (by omega), X8], hT, hb1, e2, ok.1, ⟨z2 0 (by omega), z2 1 (by omega), z2 2 (by omega), fun d hd => by rw [z2 _ (by omega)]; rfl⟩, wf_c (by omega)⟩
  have hall := m_rows (n := n) (L := L) (Q := Q) (D := D) (tL S + 1) 4096 0 (0, 0, 0, fun _ => 0) (nxT (tB S) (tL S) (0, 0, 0, 0)) x6 w6 I1 hmp (by omega) (by omega) (fun _ => by omega) (fun _ => rfl) (fun z => absurd rfl z)
  have hstart : f_X7_frame (MM n x w I L Q D) 64 = f_X7_frame_55 4096 64 0 (MM n x6 w6 I1 L Q D) := by
    unfold f_X7_frame
    rw [p_64_0, ob_s, g_64_2, ob_s, s2_ne (by decide), k1, p_64_3, ob_s, p_64_2, ob_s, p_64_8, ob_s, p_64_4, ob_s, ← eX]
    refine Eq.trans z1 ?_
    rw [e1, ob_s]
  rw [hstart]
  unfold pTxt
  generalize pAll (tB S) (tL S) (tL S + 1) 0 (0, 0, 0, fun _ => 0) (nxT (tB S) (tL S) (0, 0, 0, 0)) = R at hall ⊢
  obtain ⟨v, x7, w7, I7, f1, f2, f3⟩ := hall
  have hxc : ∀ a, a ≠ 64 → x7 a = x a := fun a ha => funext fun k => by rw [f2 a k (fun z => ha z.1), e3 a k (fun z => ha z.1), XO a k (fun z => ha z.1)]
  have g2 : x7 64 2 = nI 0 := by rw [f2 64 2 (by omega), e3 64 2 (by omega), X2]; rfl
  have g28 : x7 64 28 = x 64 28 := by rw [f2 64 28 (by omega), e3 64 28 (by omega), XO 64 28 (by omega)]
  cases R with
  | inl e =>
    obtain ⟨rfl, c1, c2⟩ := f3
    have hI : ∀ a, a ≠ 67 → I7 a = I a := fun a ha => by rw [c2 a ha, z3 a ha]
    have g19 : x7 64 19 = x 64 19 := by
      rw [f2 64 19 (fun z => by
        rcases z.2 with z | z
        · omega
        · cases z.2), e3 64 19 (by omega), XO 64 19 (by omega)]
    refine ⟨x7, w7, I7, f1, ⟨⟨g2, fun j hj => absurd hj (Nat.not_lt_zero j)⟩, c1, ?_, ⟨by rw [g19]; exact k5, fun k hk => ?_⟩, fun k hk => ?_, ?_⟩, fun a ha => ⟨hxc a (by omega), hI a (by omega)⟩⟩
    · unfold FrO at *
      rw [hI 66 (by decide)]
      exact k4
    · have := k6 k hk
      unfold FrO at *
      rw [hI 69 (by decide)]
      exact this
    · have e := k7 k hk
      show (match iM S k with | none => _ | some G => _)
      unfold FrO at *
      rw [hI 73 (by decide), hI 68 (by decide)]
      exact e
    · unfold LKM at *
      rw [g28, hI 78 (by decide)]
      exact k8
  | inr q =>
    obtain ⟨rfl, c1, c2, c3, c4⟩ := f3
    have hI : ∀ a, a ≠ 67 → a ≠ 66 → I7 a = I a := fun a ha hb => by rw [c4 a ha hb, z3 a ha]
    refine ⟨x7, w7, I7, f1, ⟨⟨g2, fun j hj => absurd hj (Nat.not_lt_zero j)⟩, c1, c3, ⟨c2, fun k hk => absurd hk (Nat.not_lt_zero k)⟩, fun k hk => ?_, ?_⟩, fun a ha => ⟨hxc a (by omega), hI a (by omega) (by omega)⟩⟩
    · have e := k7 k hk
      show (match iM S k with | none => _ | some G => _)
      unfold FrO at *
      rw [hI 73 (by decide) (by decide), hI 68 (by decide) (by decide)]
      exact e
    · unfold LKM at *
      rw [g28, hI 78 (by decide) (by decide)]
      exact k8
end MFRAME
theorem s_frame {PC : PCt} (hP : PCok PC) : S_frame (INVp PC) := by
  intro h hI
  refine both (fC := fun h => f_X6_frame h 0) (fM := fun h => f_X7_frame h 64) hP.sc (fun S => frA (pTxt (tB S) (tL S))) (fun S => frN (pTxt (tB S) (tL S)) S) (fun n x w I L Q D S hc => ?_) (fun n x w I L Q D S hb hm => ?_) hI
  · obtain ⟨x', I', e1, e2, e3⟩ := c_frame (w := w) hP (pAll_k _ _ _ _) hc
    exact ⟨n, x', I', L, Q, D, e1, e2, e3⟩
  · exact m_frame hb.2.2.1 hb.2.2.2.1 hm
