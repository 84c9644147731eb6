/-! the rows of a text -/
abbrev PR : Type := (Nat × Nat) ⊕ (Fm × Tok)
def nxT (b : Nat → Nat) (T : Nat) (t : Tok) : Tok := tkAt b T (skN b (T - t.2.2.1) t.2.2.1)
def tOK (T : Nat) (t : Tok) : Prop := t.1 ≤ 4 ∧ (t.1 ≠ 4 → t.2.2.1 ≤ T) ∧ (t.1 = 1 ∨ t.1 = 2 ∨ t.1 = 3 → t.2.1 < t.2.2.1)
theorem nxT_ok {b : Nat → Nat} {T : Nat} {t : Tok} (h : t.2.2.1 ≤ T) : tOK T (nxT b T t) ∧ ((nxT b T t).1 ≠ 4 → t.2.2.1 ≤ (nxT b T t).2.1) := by
  have hs := skN_le b (T - t.2.2.1) t.2.2.1
  have := tk_pos (b := b) (T := T) (p := skN b (T - t.2.2.1) t.2.2.1) (by omega)
  exact ⟨⟨this.2.2, fun z => (this.1 z).2.1, this.2.1⟩, fun z => by have := this.1 z; show t.2.2.1 ≤ (tkAt b T (skN b (T - t.2.2.1) t.2.2.1)).2.1; omega⟩
def pNum (b : Nat → Nat) (T : Nat) (t : Tok) (mo : Int32) : (Nat × Nat) ⊕ Tok := if (nxT b T t).1 ≠ 2 then .inl (1, (nxT b T t).2.1) else if (nxT b T t).2.2.2 < 1 ∨ ¬ (nxT b T t).2.2.2 ≤ mo then .inl (2, (nxT b T t).2.1) else .inr (nxT b T t)
def vN (t : Tok) : Nat := t.2.2.2.toNatClampNeg
def pCells (b : Nat → Nat) (T : Nat) (t : Tok) : PR := match pNum b T t 18 with
  | .inl e => .inl e
  | .inr u => .inr ((vN u, 0, 0, fun _ => 0), nxT b T u)
def pHole (b : Nat → Nat) (T : Nat) (F : Fm) (t : Tok) : PR := match pNum b T t (nI F.1) with
  | .inl e => .inl e
  | .inr u => if F.2.1.testBit (vN u - 1) = true ∨ (pinM F.2.2.2 0 15).testBit (vN u - 1) = true then .inl (3, u.2.1) else .inr ((F.1, F.2.1 ^^^ 2 ^ (vN u - 1), F.2.2.1, F.2.2.2), nxT b T u)
def pPin (b : Nat → Nat) (T : Nat) (F : Fm) (d : Nat) (t : Tok) : PR := match pNum b T t (nI F.1 - nI d) with
  | .inl e => .inl e
  | .inr u => if (F.2.1 ||| pinM F.2.2.2 d 15).testBit (vN u - 1) = false ∧ (F.2.1 ||| pinM F.2.2.2 d 15).testBit (vN u + d - 1) = false then .inr ((F.1, F.2.1, F.2.2.1, updN F.2.2.2 d (vN u)), nxT b T u) else .inl (3, u.2.1)
def pPair (b : Nat → Nat) (T : Nat) (F : Fm) (t : Tok) : PR := if 9 ≤ pc F.2.2.1 then .inl (4, t.2.1) else match pNum b T t 15 with
  | .inl e => .inl e
  | .inr u => if F.2.2.1.testBit (vN u - 1) = true then .inl (3, u.2.1) else if wdP b (nxT b T u) 3 = true then pPin b T (F.1, F.2.1, F.2.2.1 ^^^ 2 ^ (vN u - 1), updN F.2.2.2 (vN u) 0) (vN u) (nxT b T u) else .inr ((F.1, F.2.1, F.2.2.1 ^^^ 2 ^ (vN u - 1), updN F.2.2.2 (vN u) 0), nxT b T u)
def pRow (b : Nat → Nat) (T : Nat) (F : Fm) (t : Tok) (first : Bool) : PR := if first = true then (if wdP b t 0 = true then pCells b T t else .inl (1, t.2.1)) else if wdP b t 1 = true then pHole b T F t else if wdP b t 2 = true then pPair b T F t else .inl (1, t.2.1)
def pAll (b : Nat → Nat) (T : Nat) : Nat → Nat → Fm → Tok → (Nat × Nat) ⊕ (Nat × Fm)
  | 0, r, F, _ => .inr (r, F)
  | j + 1, r, F, t => if t.1 = 0 then .inr (r, F) else match pRow b T F t (r == 0) with
    | .inl e => .inl e
    | .inr q => if q.2.1 = 3 then pAll b T j (r + 1) q.1 (nxT b T q.2) else .inl (1, q.2.2.1)
/-- a number within its bounds -/
theorem pNum_inr {b : Nat → Nat} {T : Nat} {t u : Tok} {mo : Int32} (h : pNum b T t mo = .inr u) : u = nxT b T t ∧ u.1 = 2 ∧ ¬ u.2.2.2 < 1 ∧ u.2.2.2 ≤ mo ∧ u.2.2.2 = nI (vN u) ∧ 1 ≤ vN u ∧ vN u < 2 ^ 31 := by
  unfold pNum at h
  split at h
  · cases h
  · rename_i h1
    split at h
    · cases h
    · rename_i h2
      have e : nxT b T t = u := Sum.inr.inj h
      rw [e] at h1 h2
      have h3 : ¬ u.2.2.2 < 1 := fun z => h2 (Or.inl z)
      have h4 : u.2.2.2 ≤ mo := Classical.byContradiction fun z => h2 (Or.inr z)
      have h5 : ¬ u.2.2.2 < 0 := fun z => h3 (neg_lt (k := 1) z (by decide))
      obtain ⟨m, hm, em⟩ := nI_of h5
      have hv : vN u = m := by unfold vN; rw [em, nI_clamp hm]
      refine ⟨e.symm, Classical.byContradiction fun z => h1 z, h3, h4, by rw [hv]; exact em, ?_, by omega⟩
      rw [hv]
      refine Nat.lt_of_not_le fun z => h3 ?_
      rw [em, show m = 0 by omega]
      decide
/-! the class -/
def CP (b : Nat → Nat) (T : Nat) (F : Fm) (t : Tok) (x I : Nat → Nat → Int32) : Prop := x 2 2 = nI T ∧ x 2 8 = 0 ∧ T ≤ 340 ∧ (∀ j, j < T → b j < 256 ∧ I 5 j = byN (b j)) ∧ TkC x t ∧ tOK T t ∧ FrF x I 3 F ∧ WFf F
def CRes (b : Nat → Nat) (T : Nat) (R : PR) (r : Int32) (x' I' : Nat → Nat → Int32) : Prop := match R with
  | .inl e => r = 0 ∧ x' 2 8 = nI e.1 ∧ x' 2 4 = nI e.2
  | .inr q => r = 1 ∧ CP b T q.1 q.2 x' I'
section CPARSE
variable {n : Nat} {x : Nat → Nat → Int32} {w : Int64} {I : Nat → Nat → Int32} {L : Nat → Nat → Int64} {Q : Nat → Nat → Option Nat} {D : Nat → Bool} {b : Nat → Nat} {T : Nat} {F : Fm} {t : Tok}
theorem CP.chg {x' : Nat → Nat → Int32} {t' : Tok} (h : CP b T F t x I) (ht : TkC x' t') (hk : tOK T t') (hx : ∀ a k, ¬ (a = 2 ∧ 3 ≤ k ∧ k ≤ 7) → x' a k = x a k) : CP b T F t' x' I := by
  obtain ⟨h1, h2, h3, h4, h5, h6, h7, h8⟩ := h
  refine ⟨by rw [hx _ _ (by omega)]; exact h1, by rw [hx _ _ (by omega)]; exact h2, h3, h4, ht, hk, h7.same (funext fun k => hx 3 k (by omega)) rfl, h8⟩
theorem c_next (h : CP b T F t x I) (ht : t.1 ≠ 4) : ∃ x', f_X5_advance (MM n x w I L Q D) 2 = some (MM n x' w I L Q D) ∧ CP b T F (nxT b T t) x' I ∧ ∀ a k, ¬ (a = 2 ∧ 3 ≤ k ∧ k ≤ 6) → x' a k = x a k := by
  have hle := h.2.2.2.2.2.1.2.1 ht
  obtain ⟨x', e1, e2, e3⟩ := c_adv (n := n) (w := w) (L := L) (Q := Q) (D := D) (b := b) h.2.2.1 hle h.2.2.2.1 h.2.2.2.2.1.2.2.1 h.1
  exact ⟨x', e1, h.chg e2 (nxT_ok hle).1 (fun a k z => e3 a k (by omega)), e3⟩
theorem c_fails {v : Int32} : f_X5_fails (MM n x w I L Q D) 2 v = some (0, MM n (s2 x 2 8 v) w I L Q D) := by
  unfold f_X5_fails
  rw [p_2_8, ob_s]
theorem c_num {mo : Int32} (h : CP b T F t x I) (ht : t.1 ≠ 4) : ∃ r x', f_X5_readNumber (MM n x w I L Q D) 2 mo = some (r, MM n x' w I L Q D) ∧ (∀ a k, ¬ (a = 2 ∧ 3 ≤ k ∧ k ≤ 8 ∧ k ≠ 7) → x' a k = x a k) ∧ match pNum b T t mo with
    | .inl e => r = 0 ∧ x' 2 8 = nI e.1 ∧ x' 2 4 = nI e.2
    | .inr u => r = 1 ∧ CP b T F u x' I := by
  obtain ⟨x1, e1, e2, e3⟩ := c_next (n := n) (w := w) (L := L) (Q := Q) (D := D) h ht
  have hk := e2.2.2.2.2.1
  have hk4 := e2.2.2.2.2.2.1.1
  unfold f_X5_readNumber pNum
  rw [o_2, if_pos rfl, e1, ob_s, g_2_3, ob_s, hk.1]
  generalize nxT b T t = u at *
  by_cases z : u.1 = 2
  · rw [if_pos (show nI u.1 = 2 by rw [z]; rfl), if_neg (show ¬ u.1 ≠ 2 from fun y => y z), g_2_6, ob_s, hk.2.2.2 z]
    by_cases z1 : u.2.2.2 < 1
    · refine ⟨0, s2 x1 2 8 2, ?_, fun a k y => by rw [s2_ne (by omega), e3 a k (by omega)], ?_⟩
      · rw [if_pos z1, o_2, if_pos rfl, c_fails, ob_s]
        rfl
      · rw [if_pos (show u.2.2.2 < 1 ∨ ¬ u.2.2.2 ≤ mo from Or.inl z1)]
        exact ⟨rfl, s2_e, by rw [s2_ne (by decide)]; exact hk.2.1⟩
    · by_cases z2 : u.2.2.2 ≤ mo
      · refine ⟨1, x1, ?_, fun a k y => e3 a k (by omega), ?_⟩
        · rw [if_neg z1, ob_s, if_pos z2]
        · rw [if_neg (show ¬ (u.2.2.2 < 1 ∨ ¬ u.2.2.2 ≤ mo) from fun y => y.elim z1 (fun v => v z2))]
          exact ⟨rfl, e2⟩
      · refine ⟨0, s2 x1 2 8 2, ?_, fun a k y => by rw [s2_ne (by omega), e3 a k (by omega)], ?_⟩
        · rw [if_neg z1, ob_s, if_neg z2, o_2, if_pos rfl, c_fails, ob_s]
          rfl
        · rw [if_pos (show u.2.2.2 < 1 ∨ ¬ u.2.2.2 ≤ mo from Or.inr z2)]
          exact ⟨rfl, s2_e, by rw [s2_ne (by decide)]; exact hk.2.1⟩
  · refine ⟨0, s2 x1 2 8 1, ?_, fun a k y => by rw [s2_ne (by omega), e3 a k (by omega)], ?_⟩
    · rw [if_neg (show ¬ nI u.1 = 2 from fun y => z ((nI_eq (b := 2) (by omega) (by decide)).mp y)), o_2, if_pos rfl, c_fails, ob_s]
      rfl
    · rw [if_pos (show u.1 ≠ 2 from z)]
      exact ⟨rfl, s2_e, by rw [s2_ne (by decide)]; exact hk.2.1⟩
theorem FrF.fr {x I : Nat → Nat → Int32} {a : Nat} {F : Fm} (h : FrF x I a F) : FrC x I a F.1 F.2.1 F.2.2.1 F.2.2.2 := h
theorem c_cells (h : CP b T F t x I) (ht : t.1 ≠ 4) : ∃ r x' I', f_X5_readCells (MM n x w I L Q D) 2 = some (r, MM n x' w I' L Q D) ∧ (∀ a, a ≠ 2 → a ≠ 3 → x' a = x a) ∧ (∀ a, a ≠ 4 → I' a = I a) ∧ CRes b T (pCells b T t) r x' I' := by
  obtain ⟨r, x1, e1, e2, e3⟩ := c_num (n := n) (w := w) (L := L) (Q := Q) (D := D) (mo := 18) h ht
  have ex : ∀ a, a ≠ 2 → x1 a = x a := fun a ha => funext fun k => e2 a k (fun z => ha z.1)
  unfold f_X5_readCells pCells
  rw [o_2, if_pos rfl, e1, ob_s]
  cases hp : pNum b T t 18 with
  | inl e =>
    rw [hp] at e3
    obtain ⟨rfl, e4, e5⟩ := e3
    exact ⟨0, x1, I, by rw [if_pos z00], fun a k _ => ex a k, fun _ _ => rfl, rfl, e4, e5⟩
  | inr u =>
    rw [hp] at e3
    obtain ⟨rfl, e4⟩ := e3
    obtain ⟨q1, q2, q3, q4, q5, q6, q7⟩ := pNum_inr hp
    have hv18 : vN u ≤ 18 := by rw [q5] at q4; exact (nI_leI (b := 18) q7 (by decide)).mp q4
    obtain ⟨x2, I2, b1, b2, b3⟩ := c_begin (n := n) (x := x1) (w := w) (I := I) (L := L) (Q := Q) (D := D) (v0 := nI (vN u)) (v1 := 0) (v2 := 0) (isF3 (D := D))
    have hcp : CP b T (vN u, 0, 0, fun _ => 0) u x2 I2 := by
      obtain ⟨h1, h2, h3, h4, h5, h6, h7, h8⟩ := e4
      have hx2 : ∀ k, x2 2 k = x1 2 k := fun k => by rw [b2, if_neg (by omega)]
      refine ⟨by rw [hx2]; exact h1, by rw [hx2]; exact h2, h3, fun j hj => ⟨(h4 j hj).1, by rw [b3, if_neg (by omega)]; exact (h4 j hj).2⟩, ⟨by rw [hx2]; exact h5.1, by rw [hx2]; exact h5.2.1, by rw [hx2]; exact h5.2.2.1, fun z => by rw [hx2]; exact h5.2.2.2 z⟩, h6, ⟨by rw [b2]; rfl, by rw [b2]; rfl, by rw [b2]; rfl, fun d hd => by rw [b3, if_pos ⟨rfl, hd⟩]; rfl⟩, ?_⟩
      exact ⟨hv18, Nat.two_pow_pos _, (show 0 < 2 ^ 15 by decide), (show pc 0 ≤ 9 by decide), fun d _ => Or.inl rfl, fun d e _ _ _ h0 => absurd rfl h0⟩
    obtain ⟨x3, d1, d2, d3⟩ := c_next (n := n) (w := w) (L := L) (Q := Q) (D := D) hcp (by rw [q2]; decide)
    refine ⟨1, x3, I2, ?_, fun a k1 k2 => funext fun k => ?_, fun a k => funext fun j => by rw [b3, if_neg (by omega)], rfl, d2⟩
    · dsimp only
      rw [if_neg z10, r_2_0, ob_s, g_2_6, ob_s, e4.2.2.2.2.1.2.2.2 q2, q5, o_3, if_pos rfl, b1, ob_s, o_2, if_pos rfl, d1, ob_s]
    · rw [d3 a k (fun z => k1 z.1), b2, if_neg (fun z => k2 z.1)]
      exact congrFun (ex a k1) k
theorem c_hole (h : CP b T F t x I) (ht : t.1 ≠ 4) : ∃ r x' I', f_X5_readHole (MM n x w I L Q D) 2 = some (r, MM n x' w I' L Q D) ∧ (∀ a, a ≠ 2 → a ≠ 3 → x' a = x a) ∧ (∀ a, a ≠ 4 → I' a = I a) ∧ CRes b T (pHole b T F t) r x' I' := by
  have hF := h.2.2.2.2.2.2.1
  have hwf : WF F.1 F.2.1 F.2.2.1 F.2.2.2 := h.2.2.2.2.2.2.2
  obtain ⟨r, x1, e1, e2, e3⟩ := c_num (n := n) (w := w) (L := L) (Q := Q) (D := D) (mo := nI F.1) h ht
  have ex : ∀ a, a ≠ 2 → x1 a = x a := fun a ha => funext fun k => e2 a k (fun z => ha z.1)
  unfold f_X5_readHole pHole
  rw [r_2_0, ob_s, g_3_0, ob_s, hF.fr.1, o_2, if_pos rfl, e1, ob_s]
  cases hp : pNum b T t (nI F.1) with
  | inl e =>
    rw [hp] at e3
    obtain ⟨rfl, e4, e5⟩ := e3
    exact ⟨0, x1, I, by rw [if_pos z00], fun a k _ => ex a k, fun _ _ => rfl, rfl, e4, e5⟩
  | inr u =>
    rw [hp] at e3
    obtain ⟨rfl, e4⟩ := e3
    obtain ⟨q1, q2, q3, q4, q5, q6, q7⟩ := pNum_inr hp
    have hc18 := hwf.1
    have hv : vN u ≤ F.1 := by rw [q5] at q4; exact (nI_leI q7 (by omega)).mp q4
    have hset := c_setHole (n := n) (w := w) (L := L) (Q := Q) (D := D) (p := vN u) (b := true) (isF3 (D := D)) e4.2.2.2.2.2.2.1.fr hwf q7
    have hk := e4.2.2.2.2.1
    dsimp only
    rw [if_neg z10, r_2_0, ob_s, g_2_6, ob_s, hk.2.2.2 q2, q5, o_3, if_pos rfl]
    by_cases hok : F.2.1.testBit (vN u - 1) = true ∨ (pinM F.2.2.2 0 15).testBit (vN u - 1) = true
    · have hno : ¬ okH F.1 F.2.1 F.2.2.2 (vN u) true := fun z => by
        rcases hok with y | y
        · exact z.2.1 y
        · rw [z.2.2] at y; cases y
      refine ⟨0, s2 x1 2 8 3, I, ?_, fun a k1 _ => by rw [s2_row k1]; exact ex a k1, fun _ _ => rfl, ?_⟩
      · rw [show f_X2_setHole (MM n x1 w I L Q D) 3 (nI (vN u)) 1 = _ from hset.2 hno, ob_s]
        dsimp only
        rw [if_pos (show NO = -1 from rfl), o_2, if_pos rfl, c_fails, ob_s]
        rfl
      · rw [if_pos hok]
        exact ⟨rfl, s2_e, by rw [s2_ne (by decide)]; exact hk.2.1⟩
    · have hyes : okH F.1 F.2.1 F.2.2.2 (vN u) true := ⟨⟨q6, hv⟩, fun z => hok (Or.inl z), by
        cases y : (pinM F.2.2.2 0 15).testBit (vN u - 1) with
        | false => rfl
        | true => exact absurd (Or.inr y) hok⟩
      have hwf2 := WF.hole hwf hyes
      have hcp : CP b T (F.1, F.2.1 ^^^ 2 ^ (vN u - 1), F.2.2.1, F.2.2.2) u (s2 x1 3 1 (nI (F.2.1 ^^^ 2 ^ (vN u - 1)))) I := by
        obtain ⟨h1, h2, h3, h4, h5, h6, h7, h8⟩ := e4
        have h7 := h7.fr
        refine ⟨by rw [s2_ne (by decide)]; exact h1, by rw [s2_ne (by decide)]; exact h2, h3, h4, ⟨by rw [s2_ne (by decide)]; exact h5.1, by rw [s2_ne (by decide)]; exact h5.2.1, by rw [s2_ne (by decide)]; exact h5.2.2.1, fun z => by rw [s2_ne (by decide)]; exact h5.2.2.2 z⟩, h6, ⟨by rw [s2_ne (by decide)]; exact h7.1, s2_e, by rw [s2_ne (by decide)]; exact h7.2.2.1, h7.2.2.2⟩, hwf2⟩
      obtain ⟨x3, d1, d2, d3⟩ := c_next (n := n) (w := w) (L := L) (Q := Q) (D := D) hcp (by rw [q2]; decide)
      refine ⟨1, x3, I, ?_, fun a k1 k2 => funext fun k => ?_, fun _ _ => rfl, ?_⟩
      · rw [show f_X2_setHole (MM n x1 w I L Q D) 3 (nI (vN u)) 1 = _ from hset.1 hyes, ob_s]
        dsimp only
        have hpc : pc (F.2.1 ^^^ 2 ^ (vN u - 1)) ≤ 18 := pcN_le 18 _
        rw [if_neg (show ¬ nI (pc (F.2.1 ^^^ 2 ^ (vN u - 1))) = -1 from nI_NO (by omega)), o_2, if_pos rfl, d1, ob_s]
      · rw [d3 a k (fun z => k1 z.1), s2_row k2]
        exact congrFun (ex a k1) k
      · rw [if_neg hok]
        exact ⟨rfl, d2⟩
end CPARSE
