/-! a row, all rows -/
theorem tT1 : true = true := rfl
theorem bI_t {c : Bool} (h : c = true) : ¬ bI c = 0 := by rw [bI_0, h]; decide
theorem bI_f {c : Bool} (h : ¬ c = true) : bI c = 0 := by rw [bI_0]; simpa using h
theorem pNum_pos {b : Nat → Nat} {T : Nat} {t u : Tok} {mo : Int32} (h : pNum b T t mo = .inr u) (ht : t.2.2.1 ≤ T) : t.2.2.1 ≤ u.2.1 ∧ u.2.1 < u.2.2.1 ∧ u.2.2.1 ≤ T := by
  obtain ⟨q1, q2, _⟩ := pNum_inr h
  obtain ⟨a1, a2⟩ := nxT_ok (b := b) ht
  rw [← q1] at a1 a2
  exact ⟨a2 (by rw [q2]; decide), a1.2.2 (Or.inr (Or.inl q2)), a1.2.1 (by rw [q2]; decide)⟩
/-- what a good row leaves -/
def qOK (b : Nat → Nat) (T : Nat) (t : Tok) (q : Fm × Tok) : Prop := ∃ u : Tok, t.2.2.1 ≤ u.2.2.1 ∧ u.2.2.1 ≤ T ∧ q.2 = nxT b T u
theorem qOK.pos {b : Nat → Nat} {T : Nat} {t : Tok} {q : Fm × Tok} (h : qOK b T t q) : tOK T q.2 ∧ (q.2.1 ≠ 4 → t.2.2.1 ≤ q.2.2.1) := by
  obtain ⟨u, h1, h2, h3⟩ := h
  obtain ⟨a1, a2⟩ := nxT_ok (b := b) h2
  rw [← h3] at a1 a2
  exact ⟨a1, fun z => Nat.le_trans h1 (a2 z)⟩
theorem pCells_ok {b : Nat → Nat} {T : Nat} {t : Tok} {q : Fm × Tok} (ht : t.2.2.1 ≤ T) (h : pCells b T t = .inr q) : qOK b T t q ∧ 1 ≤ q.1.1 := by
  unfold pCells at h
  cases hp : pNum b T t 18 with
  | inl e => rw [hp] at h; cases h
  | inr u =>
    rw [hp] at h
    have e : ((vN u, 0, 0, fun _ => 0), nxT b T u) = q := Sum.inr.inj h
    have a := pNum_pos hp ht
    rw [← e]
    exact ⟨⟨u, by omega, a.2.2, rfl⟩, (pNum_inr hp).2.2.2.2.2.1⟩
theorem pHole_ok {b : Nat → Nat} {T : Nat} {F : Fm} {t : Tok} {q : Fm × Tok} (ht : t.2.2.1 ≤ T) (h : pHole b T F t = .inr q) : qOK b T t q ∧ q.1.1 = F.1 := by
  unfold pHole at h
  cases hp : pNum b T t (nI F.1) with
  | inl e => rw [hp] at h; cases h
  | inr u =>
    rw [hp] at h
    dsimp only at h
    split at h
    · cases h
    · have e := Sum.inr.inj h
      have a := pNum_pos hp ht
      rw [← e]
      exact ⟨⟨u, by omega, a.2.2, rfl⟩, rfl⟩
theorem pPin_ok {b : Nat → Nat} {T : Nat} {F : Fm} {d : Nat} {t : Tok} {q : Fm × Tok} (ht : t.2.2.1 ≤ T) (h : pPin b T F d t = .inr q) : qOK b T t q ∧ q.1.1 = F.1 := by
  unfold pPin at h
  cases hp : pNum b T t (nI F.1 - nI d) with
  | inl e => rw [hp] at h; cases h
  | inr u =>
    rw [hp] at h
    dsimp only at h
    split at h
    · have e := Sum.inr.inj h
      have a := pNum_pos hp ht
      rw [← e]
      exact ⟨⟨u, by omega, a.2.2, rfl⟩, rfl⟩
    · cases h
theorem pPair_ok {b : Nat → Nat} {T : Nat} {F : Fm} {t : Tok} {q : Fm × Tok} (ht : t.2.2.1 ≤ T) (h : pPair b T F t = .inr q) : qOK b T t q ∧ q.1.1 = F.1 := by
  unfold pPair at h
  split at h
  · cases h
  · cases hp : pNum b T t 15 with
    | inl e => rw [hp] at h; cases h
    | inr u =>
      rw [hp] at h
      dsimp only at h
      have a := pNum_pos hp ht
      split at h
      · cases h
      · split at h
        · rename_i hw
          obtain ⟨a1, a2⟩ := nxT_ok (b := b) a.2.2
          have k1 : (nxT b T u).1 = 1 := (wdP_iff.mp hw).1
          have k2 := a2 (by rw [k1]; decide)
          have k3 := a1.2.1 (by rw [k1]; decide)
          have k4 := a1.2.2 (Or.inl k1)
          obtain ⟨⟨v, v1, v2, v3⟩, e⟩ := pPin_ok k3 h
          exact ⟨⟨v, by omega, v2, v3⟩, e⟩
        · have e := Sum.inr.inj h
          rw [← e]
          exact ⟨⟨u, by omega, a.2.2, rfl⟩, rfl⟩
theorem pRow_ok {b : Nat → Nat} {T : Nat} {F : Fm} {t : Tok} {fi : Bool} {q : Fm × Tok} (ht : tOK T t) (h : pRow b T F t fi = .inr q) : t.1 = 1 ∧ qOK b T t q ∧ (fi = true ∨ 1 ≤ F.1 → 1 ≤ q.1.1) := by
  have k : ∀ i, wdP b t i = true → t.1 = 1 ∧ t.2.2.1 ≤ T := fun i z => by
    have := (wdP_iff.mp z).1
    exact ⟨this, ht.2.1 (by rw [this]; decide)⟩
  unfold pRow at h
  split at h
  · split at h
    · rename_i hw
      have := pCells_ok (k _ hw).2 h
      exact ⟨(k _ hw).1, this.1, fun _ => this.2⟩
    · cases h
  · rename_i hf
    split at h
    · rename_i hw
      have := pHole_ok (k _ hw).2 h
      exact ⟨(k _ hw).1, this.1, fun z => z.elim (fun y => absurd y hf) (fun y => by rw [this.2]; exact y)⟩
    · split at h
      · rename_i hw
        have := pPair_ok (k _ hw).2 h
        exact ⟨(k _ hw).1, this.1, fun z => z.elim (fun y => absurd y hf) (fun y => by rw [this.2]; exact y)⟩
      · cases h
section CPARSE3
variable {n : Nat} {w : Int64} {L : Nat → Nat → Int64} {Q : Nat → Nat → Option Nat} {D : Nat → Bool} {b : Nat → Nat} {T : Nat}
theorem CRes.r01 {R : PR} {r : Int32} {x I : Nat → Nat → Int32} (h : CRes b T R r x I) : r = 0 ∨ r = 1 := by
  unfold CRes at h
  split at h
  · exact Or.inl h.1
  · exact Or.inr h.1
theorem c_row {F : Fm} {t : Tok} {x I : Nat → Nat → Int32} (h : CP b T F t x I) (fi : Bool) : ∃ r x' I', f_X5_readRow (MM n x w I L Q D) 2 (bI fi) = some (r, MM n x' w I' L Q D) ∧ (∀ a, a ≠ 2 → a ≠ 3 → x' a = x a) ∧ (∀ a, a ≠ 4 → I' a = I a) ∧ CRes b T (pRow b T F t fi) r x' I' := by
  have hk := h.2.2.2.2.2.1
  have hwd : ∀ i, f_X5_isWord (MM n x w I L Q D) 2 i = some (bI (wdP b t i)) := fun i => c_word (n := n) (w := w) (L := L) (Q := Q) (D := D) (i := i) h.2.2.2.1 h.2.2.1 h.2.2.2.2.1 (fun z => ⟨Nat.le_of_lt (hk.2.2 (Or.inl z)), hk.2.1 (by rw [z]; decide)⟩) hk.1
  have h4 : ∀ i, wdP b t i = true → t.1 ≠ 4 := fun i z => by rw [(wdP_iff.mp z).1]; decide
  have hfail : (f_X5_fails (MM n x w I L Q D) 2 1).bind (fun x6 => if x6.1 = 0 ∨ x6.1 = 1 then some ((x6.1, x6.2)) else none) = some ((0 : Int32), MM n (s2 x 2 8 1) w I L Q D) := by
    rw [c_fails, ob_s]
    rfl
  have hres : ∀ f : Int32, ((0 : Int32) = 0 ∧ (s2 x 2 8 1) 2 8 = nI 1 ∧ (s2 x 2 8 1) 2 4 = nI t.2.1) := fun _ => ⟨rfl, s2_e, by rw [s2_ne (by decide)]; exact h.2.2.2.2.1.2.1⟩
  unfold f_X5_readRow pRow
  cases fi with
  | true =>
    rw [show (if true = true then (if wdP b t 0 = true then pCells b T t else .inl (1, t.2.1)) else if wdP b t 1 = true then pHole b T F t else if wdP b t 2 = true then pPair b T F t else .inl (1, t.2.1) : PR) = (if wdP b t 0 = true then pCells b T t else .inl (1, t.2.1)) from if_pos tT1, if_neg (show ¬ bI true = 0 from bI_t tT1), o_2, if_pos tT1, hwd, ob_s]
    by_cases z : wdP b t 0 = true
    · have hq := c_cells (n := n) (w := w) (L := L) (Q := Q) (D := D) h (h4 _ z)
      rw [if_neg (bI_t z), if_pos z, if_pos tT1]
      generalize pCells b T t = R at hq ⊢
      obtain ⟨r, x1, I1, e1, e2, e3, e4⟩ := hq
      rw [e1, ob_s]
      exact ⟨r, x1, I1, by rw [if_pos e4.r01], e2, e3, e4⟩
    · rw [if_pos (bI_f z), if_neg z, if_pos tT1, hfail]
      exact ⟨0, s2 x 2 8 1, I, rfl, fun a k1 _ => s2_row k1, fun _ _ => rfl, hres 0⟩
  | false =>
    rw [show (if false = true then (if wdP b t 0 = true then pCells b T t else .inl (1, t.2.1)) else if wdP b t 1 = true then pHole b T F t else if wdP b t 2 = true then pPair b T F t else .inl (1, t.2.1) : PR) = (if wdP b t 1 = true then pHole b T F t else if wdP b t 2 = true then pPair b T F t else .inl (1, t.2.1)) from if_neg (fun y => (by cases y)), if_pos (show bI false = 0 from rfl), o_2, if_pos tT1, hwd, ob_s]
    by_cases z : wdP b t 1 = true
    · have hq := c_hole (n := n) (w := w) (L := L) (Q := Q) (D := D) h (h4 _ z)
      rw [if_neg (bI_t z), if_pos z, if_pos tT1]
      generalize pHole b T F t = R at hq ⊢
      obtain ⟨r, x1, I1, e1, e2, e3, e4⟩ := hq
      rw [e1, ob_s]
      exact ⟨r, x1, I1, by rw [if_pos e4.r01], e2, e3, e4⟩
    · rw [if_pos (bI_f z), if_neg z, if_pos tT1, hwd, ob_s]
      by_cases y : wdP b t 2 = true
      · have hq := c_pair (n := n) (w := w) (L := L) (Q := Q) (D := D) h (h4 _ y)
        rw [if_neg (bI_t y), if_pos y, if_pos tT1]
        generalize pPair b T F t = R at hq ⊢
        obtain ⟨r, x1, I1, e1, e2, e3, e4⟩ := hq
        exact ⟨r, x1, I1, e1, e2, e3, e4⟩
      · rw [if_pos (bI_f y), if_neg y, if_pos tT1, hfail]
        exact ⟨0, s2 x 2 8 1, I, rfl, fun a k1 _ => s2_row k1, fun _ _ => rfl, hres 0⟩
/-- what the class's reader answers -/
def CAll (b : Nat → Nat) (T : Nat) (R : (Nat × Nat) ⊕ (Nat × Fm)) (r : Int32) (x' I' : Nat → Nat → Int32) : Prop := match R with
  | .inl e => r = -1 - nI e.2 ∧ x' 2 8 = nI e.1
  | .inr q => r = nI q.1 ∧ x' 2 8 = 0 ∧ FrF x' I' 3 q.2 ∧ WFf q.2
theorem c_all : ∀ (j : Nat) (fu r : Nat) (F : Fm) (t : Tok) (x I : Nat → Nat → Int32), CP b T F t x I → j ≤ fu → 1 ≤ j → (t.1 ≠ 4 → 2 * r ≤ t.2.1 ∧ T < t.2.1 + j) → 2 * r ≤ T → ∃ v x' I', f_X5_read_56 fu 2 (nI r) (MM n x w I L Q D) = some (v, MM n x' w I' L Q D) ∧ (∀ a, a ≠ 2 → a ≠ 3 → x' a = x a) ∧ (∀ a, a ≠ 4 → I' a = I a) ∧ CAll b T (pAll b T j r F t) v x' I'
  | 0, _, _, _, _, _, _, _, _, h1, _, _ => absurd h1 (by decide)
  | j + 1, fu, r, F, t, x, I, h, hf, _, hp, hr => by
    obtain ⟨fu, rfl⟩ : ∃ n9, fu = n9 + 1 := ⟨fu - 1, by omega⟩
    have hT := h.2.2.1
    have hk := h.2.2.2.2.1
    have hok := h.2.2.2.2.2.1
    rw [f_X5_read_56, pAll, g_2_3, ob_s, hk.1]
    by_cases z0 : t.1 = 0
    · rw [if_pos (show nI t.1 = 0 by rw [z0]; rfl), if_pos z0]
      exact ⟨nI r, x, I, rfl, fun _ _ _ => rfl, fun _ _ => rfl, rfl, h.2.1, h.2.2.2.2.2.2.1, h.2.2.2.2.2.2.2⟩
    · rw [if_neg (nI_ne0 (Nat.pos_of_ne_zero z0) (by have := hok.1; omega)), if_neg z0, if_neg (show ¬ (340 : Int32) ≤ nI r from nI_ge (b := 340) (by omega) (by decide))]
      obtain ⟨v, x1, I1, e1, e2, e3, e4⟩ := c_row (n := n) (w := w) (L := L) (Q := Q) (D := D) h (r == 0)
      have key : ∃ v x' I', (f_X5_readRow (MM n x w I L Q D) 2 (bI (r == 0))).bind (fun x7 => if x7.1 = 0 then ((gI x7.2 2 5 4).bind fun x8 => some (((-1 : Int32) - x8, x7.2))) else (if oK x7.2 2 5 = true then (f_X5_endsRow x7.2 2).bind fun x9 => if x9.1 = 0 then ((gI x9.2 2 5 4).bind fun x11 => some (((-1 : Int32) - x11, x9.2))) else (if oK x9.2 2 5 = true then (f_X5_advance x9.2 2).bind fun h10 => f_X5_read_56 fu 2 (nI r + (1)) h10 else none) else none)) = some (v, MM n x' w I' L Q D) ∧ (∀ a, a ≠ 2 → a ≠ 3 → x' a = x a) ∧ (∀ a, a ≠ 4 → I' a = I a) ∧ CAll b T (match pRow b T F t (r == 0) with
          | .inl e => .inl e
          | .inr q => if q.2.1 = 3 then pAll b T j (r + 1) q.1 (nxT b T q.2) else .inl (1, q.2.2.1)) v x' I' := by
        rw [e1, ob_s]
        cases hpr : pRow b T F t (r == 0) with
        | inl e =>
          rw [hpr] at e4
          obtain ⟨rfl, e5, e6⟩ := e4
          dsimp only
          rw [if_pos z00, g_2_4, ob_s, e6]
          exact ⟨_, x1, I1, rfl, e2, e3, rfl, e5⟩
        | inr q =>
          rw [hpr] at e4
          obtain ⟨rfl, e5⟩ := e4
          obtain ⟨p1, p2, p3⟩ := pRow_ok hok hpr
          obtain ⟨p4, p5⟩ := p2.pos
          dsimp only
          rw [if_neg z10, o_2, if_pos tT1]
          unfold f_X5_endsRow
          rw [g_2_3, ob_s, e5.2.2.2.2.1.1]
          by_cases y : q.2.1 = 3
          · have y4 : q.2.1 ≠ 4 := by rw [y]; decide
            have b1 := hp (by rw [p1]; decide)
            have b2 := hok.2.2 (Or.inl p1)
            have b3 := p5 y4
            have b4 := p4.2.2 (Or.inr (Or.inr y))
            have b5 := p4.2.1 y4
            obtain ⟨x3, d1, d2, d3⟩ := c_next (n := n) (w := w) (L := L) (Q := Q) (D := D) e5 y4
            have b6 := (nxT_ok (b := b) b5).2
            obtain ⟨v, x4, I4, f1, f2, f3, f4⟩ := c_all j fu (r + 1) q.1 (nxT b T q.2) x3 I1 d2 (by omega) (by omega) (fun k => by have := b6 k; omega) (by omega)
            rw [if_pos (show nI q.2.1 = 3 by rw [y]; rfl), if_pos y, ob_s]
            dsimp only
            rw [if_neg z10, o_2, if_pos tT1, d1, ob_s, nI_1]
            exact ⟨v, x4, I4, f1, fun a k1 k2 => by rw [f2 a k1 k2, ← e2 a k1 k2]; exact funext fun k => d3 a k (fun z => k1 z.1), fun a k => by rw [f3 a k, e3 a k], f4⟩
          · rw [if_neg (show ¬ nI q.2.1 = 3 from fun v => y ((nI_eq (b := 3) (by have := p4.1; omega) (by decide)).mp v)), if_neg y, o_2, if_pos tT1, c_fails, ob_s]
            dsimp only
            rw [if_pos z00, ob_s]
            dsimp only
            rw [if_pos z00, g_2_4, ob_s]
            exact ⟨_, s2 x1 2 8 1, I1, rfl, fun a k1 k2 => by rw [s2_row k1, e2 a k1 k2], e3, by rw [s2_ne (by decide), e5.2.2.2.2.1.2.1], s2_e⟩
      by_cases y : r = 0
      · rw [if_pos (show nI r = 0 by rw [y]; rfl), o_2, if_pos tT1]
        have : bI (r == 0) = 1 := by rw [y]; rfl
        rw [this] at key
        exact key
      · rw [if_neg (nI_ne0 (Nat.pos_of_ne_zero y) (by omega)), o_2, if_pos tT1]
        have : bI (r == 0) = 0 := by rw [bI_0]; simpa using y
        rw [this] at key
        exact key
end CPARSE3
