/-! the model -/
def MP (b : Nat → Nat) (T : Nat) (F : Fm) (t : Tok) (x : Nat → Nat → Int32) (w : Int64) (I : Nat → Nat → Int32) : Prop := x 64 3 = nI T ∧ x 64 8 = 0 ∧ T ≤ 340 ∧ (∀ j, j < T → b j < 256 ∧ I 65 j = nI (b j)) ∧ TkM b x w t ∧ tOK T t ∧ FrO I 67 0 F ∧ WFf F
def MRes (b : Nat → Nat) (T : Nat) (R : PR) (r : Int32) (x' : Nat → Nat → Int32) (w' : Int64) (I' : Nat → Nat → Int32) : Prop := match R with
  | .inl e => r = 0 ∧ x' 64 8 = nI e.1 ∧ x' 64 9 = nI e.2
  | .inr q => r = 1 ∧ MP b T q.1 q.2 x' w' I'
def pTok (u : Tok) (mo : Int32) : (Nat × Nat) ⊕ Tok := if u.1 ≠ 2 then .inl (1, u.2.1) else if u.2.2.2 < 1 ∨ ¬ u.2.2.2 ≤ mo then .inl (2, u.2.1) else .inr u
theorem pNum_tok {b : Nat → Nat} {T : Nat} {t : Tok} {mo : Int32} : pNum b T t mo = pTok (nxT b T t) mo := rfl
theorem or_xor {m i : Nat} (h : m.testBit i = false) : m ||| 2 ^ i = m ^^^ 2 ^ i := Nat.eq_of_testBit_eq fun j => by
  rw [Nat.testBit_or, Nat.testBit_xor, Nat.testBit_two_pow]
  by_cases z : i = j
  · subst z; rw [h]; simp
  · simp [z]
/-- only the reader's fields -/
def MX (x x' : Nat → Nat → Int32) : Prop := ∀ a k, ¬ (a = 64 ∧ 4 ≤ k ∧ k ≤ 9) → x' a k = x a k
theorem MX.tr {x y z : Nat → Nat → Int32} (h1 : MX x y) (h2 : MX y z) : MX x z := fun a k q => by rw [h2 a k q, h1 a k q]
section MPARSE
variable {n : Nat} {x : Nat → Nat → Int32} {w : Int64} {I : Nat → Nat → Int32} {L : Nat → Nat → Int64} {Q : Nat → Nat → Option Nat} {D : Nat → Bool} {b : Nat → Nat} {T : Nat} {F : Fm} {t : Tok}
theorem m_next (h : MP b T F t x w I) (ht : t.1 ≠ 4) : ∃ x' w', f_X7_goes (MM n x w I L Q D) 64 = some (MM n x' w' I L Q D) ∧ MP b T F (nxT b T t) x' w' I ∧ MX x x' := by
  obtain ⟨h1, h2, h3, h4, h5, h6, h7, h8⟩ := h
  have hle := h6.2.1 ht
  obtain ⟨x', w', e1, e2, e3⟩ := m_goes (n := n) (w := w) (L := L) (Q := Q) (D := D) (b := b) h3 hle h4 (h5.2.2.1 ht) h1
  exact ⟨x', w', e1, ⟨by rw [e3 _ _ (by omega)]; exact h1, by rw [e3 _ _ (by omega)]; exact h2, h3, h4, e2, (nxT_ok hle).1, h7, h8⟩, fun a k z => e3 a k (by omega)⟩
theorem m_bad {v : Int32} (h : MP b T F t x w I) : f_X7_bad (MM n x w I L Q D) 64 v = some (0, MM n (s2 (s2 x 64 8 (if t.1 = 4 then 1 else v)) 64 9 (nI t.2.1)) w I L Q D) := by
  have hs : ∀ k, k ≤ 4 → (nI (srt k) = 1 ↔ k = 4) := by decide
  have hk := h.2.2.2.2.1
  have h4 := h.2.2.2.2.2.1.1
  unfold f_X7_bad
  rw [g_64_6, ob_s, hk.1]
  by_cases z : t.1 = 4
  · rw [if_pos ((hs _ h4).mpr z), if_pos z, p_64_8, ob_s, g_64_5, ob_s, s2_ne (by decide), hk.2.1, p_64_9, ob_s]
  · rw [if_neg (fun y => z ((hs _ h4).mp y)), if_neg z, p_64_8, ob_s, g_64_5, ob_s, s2_ne (by decide), hk.2.1, p_64_9, ob_s]
theorem mx_bad {v u : Int32} : MX x (s2 (s2 x 64 8 v) 64 9 u) := fun a k z => by rw [s2_ne (by omega), s2_ne (by omega)]
theorem m_isNum {mo : Int32} (h : MP b T F t x w I) : ∃ r x', f_X7_isNumber (MM n x w I L Q D) 64 1 mo = some (r, MM n x' w I L Q D) ∧ MX x x' ∧ match pTok t mo with
    | .inl e => r = 0 ∧ x' 64 8 = nI e.1 ∧ x' 64 9 = nI e.2
    | .inr _ => r = 1 ∧ x' = x := by
  have hs : ∀ k, k ≤ 4 → (nI (srt k) = 3 ↔ k = 2) := by decide
  have hk := h.2.2.2.2.1
  have h4 := h.2.2.2.2.2.1.1
  unfold f_X7_isNumber pTok
  rw [g_64_6, ob_s, hk.1]
  by_cases z : t.1 = 2
  · rw [if_pos ((hs _ h4).mpr z), g_64_7, ob_s, hk.2.2.2.1 z, if_neg (show ¬ t.1 ≠ 2 from fun y => y z), o_64]
    have hb : (f_X7_bad (MM n x w I L Q D) 64 2).bind (fun x4 => if x4.1 = 0 then (some (((0 : Int32), x4.2))) else (some (((1 : Int32), x4.2)))) = some (0, MM n (s2 (s2 x 64 8 2) 64 9 (nI t.2.1)) w I L Q D) := by
      rw [m_bad h, if_neg (show ¬ t.1 = 4 by rw [z]; decide), ob_s]
      rfl
    unfold f_X7_isIn
    by_cases z1 : t.2.2.2 < 1
    · rw [if_pos z1, ob_s, if_pos z00, if_pos tT1, hb, if_pos (show t.2.2.2 < 1 ∨ ¬ t.2.2.2 ≤ mo from Or.inl z1)]
      exact ⟨0, _, rfl, mx_bad, rfl, by rw [s2_ne (by decide), s2_e]; rfl, s2_e⟩
    · rw [if_neg z1]
      by_cases z2 : mo < t.2.2.2
      · rw [if_pos z2, ob_s, if_pos z00, if_pos tT1, hb, if_pos (show t.2.2.2 < 1 ∨ ¬ t.2.2.2 ≤ mo from Or.inr (Int32.not_le.mpr z2))]
        exact ⟨0, _, rfl, mx_bad, rfl, by rw [s2_ne (by decide), s2_e]; rfl, s2_e⟩
      · rw [if_neg z2, ob_s, if_neg z10, if_neg (show ¬ (t.2.2.2 < 1 ∨ ¬ t.2.2.2 ≤ mo) from fun y => y.elim z1 (fun v => v (Int32.not_lt.mp z2)))]
        exact ⟨1, x, rfl, fun _ _ _ => rfl, rfl, rfl⟩
  · have hv : (if t.1 = 4 then (1 : Int32) else 1) = 1 := by split <;> rfl
    rw [if_neg (fun y => z ((hs _ h4).mp y)), o_64, if_pos tT1, m_bad h, hv, ob_s, if_pos (show t.1 ≠ 2 from z)]
    exact ⟨0, _, rfl, mx_bad, rfl, by rw [s2_ne (by decide), s2_e]; rfl, s2_e⟩
/-- on to a number -/
theorem m_num (h : MP b T F t x w I) (ht : t.1 ≠ 4) : ∃ x1 w1, f_X7_goes (MM n x w I L Q D) 64 = some (MM n x1 w1 I L Q D) ∧ MX x x1 ∧ ∀ mo, ∃ r x', f_X7_isNumber (MM n x1 w1 I L Q D) 64 1 mo = some (r, MM n x' w1 I L Q D) ∧ MX x x' ∧ match pNum b T t mo with
    | .inl e => r = 0 ∧ x' 64 8 = nI e.1 ∧ x' 64 9 = nI e.2
    | .inr u => r = 1 ∧ MP b T F u x' w1 I := by
  obtain ⟨x1, w1, e1, e2, e3⟩ := m_next (n := n) (L := L) (Q := Q) (D := D) h ht
  refine ⟨x1, w1, e1, e3, fun mo => ?_⟩
  obtain ⟨r, x', f1, f2, f3⟩ := m_isNum (n := n) (L := L) (Q := Q) (D := D) (mo := mo) e2
  refine ⟨r, x', f1, e3.tr f2, ?_⟩
  rw [pNum_tok]
  cases hp : pTok (nxT b T t) mo with
  | inl e => rw [hp] at f3; exact f3
  | inr u =>
    rw [hp] at f3
    have := (pNum_inr (b := b) (T := T) (t := t) (mo := mo) hp).1
    rw [f3.2, this]
    exact ⟨f3.1, e2⟩
theorem FrO_c {v : Nat} (h : FrO I 67 0 (0, 0, 0, fun _ => 0)) : FrO (s2 I 67 0 (nI v)) 67 0 (v, 0, 0, fun _ => 0) := by
  unfold FrO at *
  rw [s2_e, s2_ne (by decide), s2_ne (by decide)]
  exact ⟨rfl, h.2.1, h.2.2.1, fun d hd => by rw [s2_ne (by omega)]; exact h.2.2.2 d hd⟩
theorem FrO_h {v : Nat} (h : FrO I 67 0 F) : FrO (s2 I 67 1 (nI v)) 67 0 (F.1, v, F.2.2.1, F.2.2.2) := by
  unfold FrO at *
  rw [s2_ne (by decide), show (0 : Nat) + 1 = 1 from rfl, s2_e, s2_ne (by decide)]
  exact ⟨h.1, rfl, h.2.2.1, fun d hd => by rw [s2_ne (by omega)]; exact h.2.2.2 d hd⟩
theorem FrO_told {d v p : Nat} (h : FrO I 67 0 F) (hd : 1 ≤ d) : FrO (s2 (s2 I 67 2 (nI v)) 67 (3 + d) (nI p)) 67 0 (F.1, F.2.1, v, updN F.2.2.2 d p) := by
  unfold FrO at *
  rw [s2_ne (by omega), s2_ne (by omega), s2_ne (by omega), s2_ne (by omega), s2_ne (by omega), show (0 : Nat) + 2 = 2 from rfl, s2_e]
  refine ⟨h.1, h.2.1, rfl, fun e he => ?_⟩
  rw [s2_at, show 0 + 3 + e = 3 + e by omega]
  show _ = nI (updN F.2.2.2 d p e)
  by_cases q : e = d
  · rw [if_pos ⟨rfl, by omega⟩, q, updN_e]
  · rw [if_neg (by omega), updN_n q, s2_ne (by omega)]
    have := h.2.2.2 e he
    rw [show 0 + 3 + e = 3 + e by omega] at this
    exact this
/-- another frame in the rows read -/
theorem MP.fr {I' : Nat → Nat → Int32} {G : Fm} (h : MP b T F t x w I) (hI : ∀ a, a ≠ 67 → I' a = I a) (hf : FrO I' 67 0 G) (hw : WFf G) : MP b T G t x w I' := by
  obtain ⟨h1, h2, h3, h4, h5, h6, h7, h8⟩ := h
  exact ⟨h1, h2, h3, by rw [hI 65 (by decide)]; exact h4, h5, h6, hf, hw⟩
theorem wf_c {v : Nat} (h : v ≤ 18) : WFf (v, 0, 0, fun _ => 0) := ⟨h, Nat.two_pow_pos _, (show 0 < 2 ^ 15 by decide), (show pc 0 ≤ 9 by decide), fun d _ => Or.inl rfl, fun d e _ _ _ h0 => absurd rfl h0⟩
theorem m_cells (h : MP b T F t x w I) (ht : t.1 ≠ 4) (hF : F = (0, 0, 0, fun _ => 0)) : ∃ r x' w' I', f_X7_readCells (MM n x w I L Q D) 64 = some (r, MM n x' w' I' L Q D) ∧ MX x x' ∧ (∀ a, a ≠ 67 → I' a = I a) ∧ MRes b T (pCells b T t) r x' w' I' := by
  obtain ⟨x1, w1, e1, e2, e3⟩ := m_num (n := n) (L := L) (Q := Q) (D := D) h ht
  obtain ⟨r, x2, f1, f2, f3⟩ := e3 18
  unfold f_X7_readCells pCells
  rw [o_64, if_pos tT1, e1, ob_s, o_64, if_pos tT1, f1, ob_s]
  cases hp : pNum b T t 18 with
  | inl e =>
    rw [hp] at f3
    obtain ⟨rfl, e4, e5⟩ := f3
    exact ⟨0, x2, w1, I, by rw [if_pos z00], f2, fun _ _ => rfl, rfl, e4, e5⟩
  | inr u =>
    rw [hp] at f3
    obtain ⟨rfl, e4⟩ := f3
    obtain ⟨q1, q2, q3, q4, q5, q6, q7⟩ := pNum_inr hp
    have hv18 : vN u ≤ 18 := by rw [q5] at q4; exact (nI_leI (b := 18) q7 (by decide)).mp q4
    subst hF
    have hcp : MP b T (vN u, 0, 0, fun _ => 0) u x2 w1 (s2 I 67 0 (nI (vN u))) := e4.fr (fun a ha => s2_row ha) (FrO_c e4.2.2.2.2.2.2.1) (wf_c hv18)
    obtain ⟨x3, w3, d1, d2, d3⟩ := m_next (n := n) (L := L) (Q := Q) (D := D) hcp (by rw [q2]; decide)
    refine ⟨1, x3, w3, _, ?_, f2.tr d3, fun a ha => s2_row ha, rfl, d2⟩
    dsimp only
    rw [if_neg z10, r_64_12, ob_s, g_64_7, ob_s, e4.2.2.2.2.1.2.2.2.1 q2, q5, show sI (MM n x2 w1 I L Q D) 0 67 0 (nI (vN u)) = _ from m_set (j := 0) rfl (by decide), ob_s, o_64, if_pos tT1, d1, ob_s]
theorem m_hole (h : MP b T F t x w I) (ht : t.1 ≠ 4) : ∃ r x' w' I', f_X7_readHole (MM n x w I L Q D) 64 = some (r, MM n x' w' I' L Q D) ∧ MX x x' ∧ (∀ a, a ≠ 67 → I' a = I a) ∧ MRes b T (pHole b T F t) r x' w' I' := by
  have hx := h.2.2.2.2.2.2.1
  have hwf : WF F.1 F.2.1 F.2.2.1 F.2.2.2 := h.2.2.2.2.2.2.2
  have hs : shp[67]? = some (0, 19) := rfl
  obtain ⟨x1, w1, e1, e2, e3⟩ := m_num (n := n) (L := L) (Q := Q) (D := D) h ht
  obtain ⟨r, x2, f1, f2, f3⟩ := e3 (nI F.1)
  unfold f_X7_readHole pHole
  rw [o_64, if_pos tT1, e1, ob_s, r_64_12, ob_s, show aI (MM n x1 w1 I L Q D) 0 67 0 = _ from m_at (j := 0) hs (by decide), ob_s, hx.1, o_64, if_pos tT1, f1, ob_s]
  cases hp : pNum b T t (nI F.1) with
  | inl e =>
    rw [hp] at f3
    obtain ⟨rfl, e4, e5⟩ := f3
    exact ⟨0, x2, w1, I, by rw [if_pos z00], f2, fun _ _ => rfl, rfl, e4, e5⟩
  | inr u =>
    rw [hp] at f3
    obtain ⟨rfl, e4⟩ := f3
    obtain ⟨q1, q2, q3, q4, q5, q6, q7⟩ := pNum_inr hp
    have hc18 := hwf.1
    have hv : vN u ≤ F.1 := by rw [q5] at q4; exact (nI_leI q7 (by omega)).mp q4
    have hpm := pinM_lt (f := F.2.2.2) 0 15 (fun d hd => hwf.f18 (by omega))
    have hpi : f_X7_pins (MM n x2 w1 I L Q D) 67 0 = some (nI (pinM F.2.2.2 0 15)) := m_pins (e := 0) hs hx.m0 hwf (by decide)
    have hval : x2 64 7 = nI (vN u) := by rw [e4.2.2.2.2.1.2.2.2.1 q2, q5]
    have hsub : nI (vN u) - 1 = nI (vN u - 1) := pk_sub (b := 1) q6
    have hor := Nat.or_lt_two_pow hwf.ho18 hpm
    dsimp only
    rw [if_neg z10, r_64_12, ob_s, show aI (MM n x2 w1 I L Q D) 0 67 1 = some (I 67 1) from m_at (j := 1) hs (by decide), ob_s, ob_s, hpi, ob_s, g_64_7, ob_s, hval, hsub, show I 67 1 = nI F.2.1 from hx.2.1, fa_or, hasN (by omega) (by omega), ob_s, Nat.testBit_or]
    by_cases hok : F.2.1.testBit (vN u - 1) = true ∨ (pinM F.2.2.2 0 15).testBit (vN u - 1) = true
    · refine ⟨0, s2 (s2 x2 64 8 3) 64 9 (nI u.2.1), w1, I, ?_, f2.tr mx_bad, fun _ _ => rfl, ?_⟩
      · rw [if_pos (show (F.2.1.testBit (vN u - 1) || (pinM F.2.2.2 0 15).testBit (vN u - 1)) = true by rw [Bool.or_eq_true]; exact hok), if_neg z10, o_64, if_pos tT1, m_bad e4, if_neg (show ¬ u.1 = 4 by rw [q2]; decide), ob_s]
        rfl
      · rw [if_pos hok]
        exact ⟨rfl, by rw [s2_ne (by decide), s2_e]; rfl, s2_e⟩
    · have hbf : F.2.1.testBit (vN u - 1) = false := by simpa using fun z => hok (Or.inl z)
      have hyes : okH F.1 F.2.1 F.2.2.2 (vN u) true := ⟨⟨q6, hv⟩, fun z => hok (Or.inl z), by simpa using fun z => hok (Or.inr z)⟩
      have hcp : MP b T (F.1, F.2.1 ^^^ 2 ^ (vN u - 1), F.2.2.1, F.2.2.2) u x2 w1 (s2 I 67 1 (nI (F.2.1 ^^^ 2 ^ (vN u - 1)))) := e4.fr (fun a ha => s2_row ha) (FrO_h hx) (WF.hole hwf hyes)
      obtain ⟨x3, w3, d1, d2, d3⟩ := m_next (n := n) (L := L) (Q := Q) (D := D) hcp (by rw [q2]; decide)
      refine ⟨1, x3, w3, s2 I 67 1 (nI (F.2.1 ^^^ 2 ^ (vN u - 1))), ?_, f2.tr d3, fun a ha => s2_row ha, ?_⟩
      · rw [if_neg (show ¬ (F.2.1.testBit (vN u - 1) || (pinM F.2.2.2 0 15).testBit (vN u - 1)) = true by rw [Bool.or_eq_true]; exact hok), if_pos z00, ob_s, show aI (MM n x2 w1 I L Q D) 0 67 1 = some (I 67 1) from m_at (j := 1) hs (by decide), ob_s, ob_s, hsub, sh1 _ (by omega), show I 67 1 = nI F.2.1 from hx.2.1, fa_or, or_xor hbf, show ∀ v, sI (MM n x2 w1 I L Q D) 0 67 1 v = some (MM n x2 w1 (s2 I 67 1 v) L Q D) from fun v => m_set (j := 1) hs (by decide), ob_s, o_64, if_pos tT1, d1, ob_s]
      · rw [if_neg hok]
        exact ⟨rfl, d2⟩
end MPARSE
