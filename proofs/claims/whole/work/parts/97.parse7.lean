/-! the model: rows, all of them -/
section MPARSE3
variable {n : Nat} {L : Nat → Nat → Int64} {Q : Nat → Nat → Option Nat} {D : Nat → Bool} {b : Nat → Nat} {T : Nat}
theorem MRes.r01 {R : PR} {r : Int32} {x I : Nat → Nat → Int32} {w : Int64} (h : MRes b T R r x w I) : r = 0 ∨ r = 1 := by
  unfold MRes at h
  split at h
  · exact Or.inl h.1
  · exact Or.inr h.1
theorem m_row {F : Fm} {t : Tok} {x : Nat → Nat → Int32} {w : Int64} {I : Nat → Nat → Int32} (h : MP b T F t x w I) (fi : Bool) (h0 : fi = true → F = (0, 0, 0, fun _ => 0)) (h1 : fi = false → 1 ≤ F.1) : ∃ r x' w' I', f_X7_readRow (MM n x w I L Q D) 64 = some (r, MM n x' w' I' L Q D) ∧ MX x x' ∧ (∀ a, a ≠ 67 → I' a = I a) ∧ MRes b T (pRow b T F t fi) r x' w' I' := by
  have hk := h.2.2.2.2.2.1
  have hx := h.2.2.2.2.2.2.1
  have hwf : WF F.1 F.2.1 F.2.2.1 F.2.2.2 := h.2.2.2.2.2.2.2
  have hc18 := hwf.1
  have hs : shp[67]? = some (0, 19) := rfl
  have w0 := m_isCells (n := n) (I := I) (L := L) (Q := Q) (D := D) h.2.2.2.2.1 (fun z => hk.2.2 (Or.inl z)) hk.1
  have w1 := m_isHole (n := n) (I := I) (L := L) (Q := Q) (D := D) h.2.2.2.2.1 (fun z => hk.2.2 (Or.inl z)) hk.1
  have w2 := m_isPair (n := n) (I := I) (L := L) (Q := Q) (D := D) h.2.2.2.2.1 (fun z => hk.2.2 (Or.inl z)) hk.1
  have h4 : ∀ i, wdP b t i = true → t.1 ≠ 4 := fun i z => by rw [(wdP_iff.mp z).1]; decide
  have hv : (if t.1 = 4 then (1 : Int32) else 1) = 1 := by split <;> rfl
  have hfail : (f_X7_bad (MM n x w I L Q D) 64 1).bind (fun x6 => if x6.1 = 0 ∨ x6.1 = 1 then some ((x6.1, x6.2)) else none) = some ((0 : Int32), MM n (s2 (s2 x 64 8 1) 64 9 (nI t.2.1)) w I L Q D) := by
    rw [m_bad h, hv, ob_s]
    rfl
  have hres : ((0 : Int32) = 0 ∧ (s2 (s2 x 64 8 1) 64 9 (nI t.2.1)) 64 8 = nI 1 ∧ (s2 (s2 x 64 8 1) 64 9 (nI t.2.1)) 64 9 = nI t.2.1) := ⟨rfl, by rw [s2_ne (by decide), s2_e]; rfl, s2_e⟩
  unfold f_X7_readRow pRow
  rw [r_64_12, ob_s, show aI (MM n x w I L Q D) 0 67 0 = some (I 67 0) from m_at (j := 0) hs (by decide), ob_s, show I 67 0 = nI F.1 from hx.1, o_64]
  cases fi with
  | true =>
    rw [show (if true = true then (if wdP b t 0 = true then pCells b T t else .inl (1, t.2.1)) else if wdP b t 1 = true then pHole b T F t else if wdP b t 2 = true then pPair b T F t else .inl (1, t.2.1) : PR) = (if wdP b t 0 = true then pCells b T t else .inl (1, t.2.1)) from if_pos tT1, if_pos (show nI F.1 = 0 by rw [h0 rfl]; rfl), if_pos tT1, w0, ob_s, if_pos tT1, if_pos tT1]
    by_cases z : wdP b t 0 = true
    · have hq := m_cells (n := n) (L := L) (Q := Q) (D := D) h (h4 _ z) (h0 rfl)
      rw [if_neg (bI_t z), if_pos z]
      generalize pCells b T t = R at hq ⊢
      obtain ⟨r, x1, w1, I1, e1, e2, e3, e4⟩ := hq
      rw [e1, ob_s]
      exact ⟨r, x1, w1, I1, by rw [if_pos e4.r01], e2, e3, e4⟩
    · rw [if_pos (bI_f z), if_neg z, hfail]
      exact ⟨0, _, w, I, rfl, mx_bad, fun _ _ => rfl, hres⟩
  | false =>
    rw [show (if false = true then (if wdP b t 0 = true then pCells b T t else .inl (1, t.2.1)) else if wdP b t 1 = true then pHole b T F t else if wdP b t 2 = true then pPair b T F t else .inl (1, t.2.1) : PR) = (if wdP b t 1 = true then pHole b T F t else if wdP b t 2 = true then pPair b T F t else .inl (1, t.2.1)) from if_neg (fun y => (by cases y)), if_neg (show ¬ nI F.1 = 0 from nI_ne0 (h1 rfl) (by omega)), if_pos tT1, w1, ob_s, if_pos tT1, if_pos tT1, w2, ob_s]
    by_cases z : wdP b t 1 = true
    · have hq := m_hole (n := n) (L := L) (Q := Q) (D := D) h (h4 _ z)
      rw [if_neg (bI_t z), if_pos z]
      generalize pHole b T F t = R at hq ⊢
      obtain ⟨r, x1, w1, I1, e1, e2, e3, e4⟩ := hq
      rw [e1, ob_s]
      exact ⟨r, x1, w1, I1, by rw [if_pos e4.r01, if_pos tT1], e2, e3, e4⟩
    · rw [if_pos (bI_f z), if_neg z]
      by_cases y : wdP b t 2 = true
      · have hq := m_pair (n := n) (L := L) (Q := Q) (D := D) h (h4 _ y)
        rw [if_neg (bI_t y), if_pos y]
        generalize pPair b T F t = R at hq ⊢
        obtain ⟨r, x1, w1, I1, e1, e2, e3, e4⟩ := hq
        rw [e1, ob_s]
        exact ⟨r, x1, w1, I1, by rw [if_pos e4.r01, if_pos tT1], e2, e3, e4⟩
      · rw [if_pos (bI_f y), if_neg y, hfail]
        exact ⟨0, _, w, I, rfl, mx_bad, fun _ _ => rfl, hres⟩
/-- what the model answers -/
def MAll (R : (Nat × Nat) ⊕ (Nat × Fm)) (r : Int32) (x' I I' : Nat → Nat → Int32) : Prop := match R with
  | .inl e => r = -1 - nI e.2 ∧ x' 64 8 = nI e.1 ∧ ∀ a, a ≠ 67 → I' a = I a
  | .inr q => r = nI q.1 ∧ x' 64 8 = 0 ∧ x' 64 19 = 0 ∧ FrO I' 66 0 q.2 ∧ ∀ a, a ≠ 67 → a ≠ 66 → I' a = I a
/-- fields 4 to 9, and 19 -/
def MY (x x' : Nat → Nat → Int32) (R : (Nat × Nat) ⊕ (Nat × Fm)) : Prop := ∀ a k, ¬ (a = 64 ∧ ((4 ≤ k ∧ k ≤ 9) ∨ (k = 19 ∧ R.isRight = true))) → x' a k = x a k
theorem MAll.chg {R : (Nat × Nat) ⊕ (Nat × Fm)} {r : Int32} {x' I I1 I' : Nat → Nat → Int32} (h : MAll R r x' I1 I') (hI : ∀ a, a ≠ 67 → I1 a = I a) : MAll R r x' I I' := by
  unfold MAll at *
  cases R with
  | inl e => exact ⟨h.1, h.2.1, fun a ha => by rw [h.2.2 a ha, hI a ha]⟩
  | inr q => exact ⟨h.1, h.2.1, h.2.2.1, h.2.2.2.1, fun a ha hb => by rw [h.2.2.2.2 a ha hb, hI a ha]⟩
theorem m_rows : ∀ (j : Nat) (fu r : Nat) (F : Fm) (t : Tok) (x : Nat → Nat → Int32) (w : Int64) (I : Nat → Nat → Int32), MP b T F t x w I → j ≤ fu → 1 ≤ j → (t.1 ≠ 4 → T < t.2.1 + j) → (r = 0 → F = (0, 0, 0, fun _ => 0)) → (r ≠ 0 → 1 ≤ F.1) → ∃ v x' w' I', f_X7_frame_55 fu 64 (nI r) (MM n x w I L Q D) = some (v, MM n x' w' I' L Q D) ∧ MY x x' (pAll b T j r F t) ∧ MAll (pAll b T j r F t) v x' I I'
  | 0, _, _, _, _, _, _, _, _, _, h1, _, _, _ => absurd h1 (by decide)
  | j + 1, fu, r, F, t, x, w, I, h, hf, _, hp, hr0, hr1 => by
    obtain ⟨fu, rfl⟩ : ∃ n9, fu = n9 + 1 := ⟨fu - 1, by omega⟩
    have hT := h.2.2.1
    have hk := h.2.2.2.2.1
    have hok := h.2.2.2.2.2.1
    have hsr : ∀ k, k ≤ 4 → ((nI (srt k) = 0 ↔ k = 0) ∧ (nI (srt k) = 4 ↔ k = 3)) := by decide
    rw [f_X7_frame_55, pAll, g_64_6, ob_s, hk.1]
    by_cases z0 : t.1 = 0
    · rw [if_pos ((hsr _ hok.1).1.mpr z0), if_pos z0, r_64_12, ob_s, r_64_11, ob_s, show f_X7_copy (MM n x w I L Q D) 67 0 66 0 = _ from m_copy (a := 67) (b := 66) (o := 0) (o2 := 0) (la := 19) (lb := 19) rfl rfl (by decide) (by decide) (by decide) (by decide) (by decide), ob_s, p_64_19, ob_s]
      refine ⟨nI r, _, w, _, rfl, fun a k z => s2_ne (fun q => z ⟨q.1, Or.inr ⟨q.2, rfl⟩⟩), rfl, by rw [s2_ne (by decide)]; exact h.2.1, s2_e, ?_, fun a ha hb => u1_n hb⟩
      refine FrO_iff.mpr fun j hj => ?_
      rw [u1_e, fb_put_in (by omega) (by omega)]
      have := FrO_iff.mp h.2.2.2.2.2.2.1 j hj
      rw [← this]
      congr 1
      omega
    · rw [if_neg (fun q => z0 ((hsr _ hok.1).1.mp q)), if_neg z0, o_64, if_pos tT1]
      have hrow := m_row (n := n) (L := L) (Q := Q) (D := D) h (r == 0) (fun z => hr0 (by simpa using z)) (fun z => hr1 (by simpa using z))
      cases hpr : pRow b T F t (r == 0) with
      | inl e =>
        rw [hpr] at hrow
        obtain ⟨v, x1, w1, I1, e1, e2, e3, rfl, e5, e6⟩ := hrow
        dsimp only
        rw [e1, ob_s]
        dsimp only
        rw [if_pos z00, g_64_9, ob_s, e6]
        exact ⟨_, x1, w1, I1, rfl, fun a k z => e2 a k (fun q => z ⟨q.1, Or.inl q.2⟩), rfl, e5, e3⟩
      | inr q =>
        rw [hpr] at hrow
        obtain ⟨v, x1, w1, I1, e1, e2, e3, rfl, e5⟩ := hrow
        obtain ⟨p1, p2, p3⟩ := pRow_ok hok hpr
        obtain ⟨p4, p5⟩ := p2.pos
        dsimp only
        rw [e1, ob_s]
        dsimp only
        rw [if_neg z10, o_64, if_pos tT1]
        unfold f_X7_readEnd
        rw [g_64_6, ob_s, e5.2.2.2.2.1.1, o_64, if_pos tT1, if_pos tT1]
        by_cases y : q.2.1 = 3
        · have y4 : q.2.1 ≠ 4 := by rw [y]; decide
          have b1 := hp (by rw [p1]; decide)
          have b2 := hok.2.2 (Or.inl p1)
          have b3 := p5 y4
          have b4 := p4.2.2 (Or.inr (Or.inr y))
          have b5 := p4.2.1 y4
          obtain ⟨x3, w3, d1, d2, d3⟩ := m_next (n := n) (L := L) (Q := Q) (D := D) e5 y4
          have b6 := (nxT_ok (b := b) b5).2
          have hq1 : 1 ≤ q.1.1 := p3 (by
            by_cases y0 : r = 0
            · exact Or.inl (by simpa using y0)
            · exact Or.inr (hr1 y0))
          have hrec := m_rows j fu (r + 1) q.1 (nxT b T q.2) x3 w3 I1 d2 (by omega) (by omega) (fun k => by have := b6 k; omega) (fun z => absurd z (Nat.succ_ne_zero r)) (fun _ => hq1)
          rw [if_pos ((hsr _ p4.1).2.mpr y), if_pos y, d1, ob_s, ob_s]
          dsimp only
          rw [if_neg z10, nI_1]
          generalize pAll b T j (r + 1) q.1 (nxT b T q.2) = R at hrec ⊢
          obtain ⟨v, x4, w4, I4, f1, f2, f3⟩ := hrec
          exact ⟨v, x4, w4, I4, f1, fun a k z => by rw [f2 a k z, (e2.tr d3) a k (fun q => z ⟨q.1, Or.inl q.2⟩)], f3.chg e3⟩
        · have hv : (if q.2.1 = 4 then (1 : Int32) else 1) = 1 := by split <;> rfl
          rw [if_neg (fun v => y ((hsr _ p4.1).2.mp v)), if_neg y, m_bad e5, hv, ob_s]
          dsimp only
          rw [if_pos (Or.inl rfl), ob_s]
          dsimp only
          rw [if_pos z00, g_64_9, ob_s]
          exact ⟨_, _, w1, I1, rfl, fun a k z => by rw [mx_bad a k (fun q => z ⟨q.1, Or.inl q.2⟩), e2 a k (fun q => z ⟨q.1, Or.inl q.2⟩)], by rw [s2_e], by rw [s2_ne (by decide), s2_e]; rfl, e3⟩
end MPARSE3
