/-! the pins, and what is left without them -/
theorem pinM_iff {f : Nat → Nat} {m : Nat} : ∀ k, (pinM f 0 k).testBit m = true ↔ ∃ d, d < k ∧ f (d + 1) ≠ 0 ∧ (m = f (d + 1) - 1 ∨ m = f (d + 1) + d)
  | 0 => by
    rw [pinM, Nat.zero_testBit]
    exact ⟨fun h => (by cases h), fun ⟨d, h, _⟩ => absurd h (Nat.not_lt_zero d)⟩
  | k + 1 => by
    have ih := pinM_iff (f := f) (m := m) k
    rw [pinM]
    by_cases h : f (k + 1) ≠ 0
    · rw [if_pos ⟨h, by omega⟩]
      simp only [Nat.testBit_or, Nat.testBit_two_pow, Bool.or_eq_true, decide_eq_true_eq]
      constructor
      · rintro (z | z | z)
        · obtain ⟨d, h1, h2, h3⟩ := ih.mp z
          exact ⟨d, by omega, h2, h3⟩
        · exact ⟨k, by omega, h, Or.inl z.symm⟩
        · exact ⟨k, by omega, h, Or.inr (by omega)⟩
      · rintro ⟨d, h1, h2, h3⟩
        by_cases z : d = k
        · subst z
          rcases h3 with y | y
          · exact Or.inr (Or.inl y.symm)
          · exact Or.inr (Or.inr (by omega))
        · exact Or.inl (ih.mpr ⟨d, by omega, h2, h3⟩)
    · rw [if_neg (fun z => h z.1)]
      refine ih.trans ⟨fun ⟨d, h1, h2, h3⟩ => ⟨d, by omega, h2, h3⟩, fun ⟨d, h1, h2, h3⟩ => ⟨d, ?_, h2, h3⟩⟩
      have : d ≠ k := fun z => by subst z; exact h h2
      omega
theorem pinD_iff {f : Nat → Nat} {m : Nat} : ∀ k, (pinD f k).testBit m = (decide (m < k) && decide (f (m + 1) ≠ 0))
  | 0 => by rw [pinD, Nat.zero_testBit]; rfl
  | k + 1 => by
    have ih := pinD_iff (f := f) (m := m) k
    rw [pinD]
    by_cases h : f (k + 1) ≠ 0
    · rw [if_pos h, Nat.testBit_or, ih, Nat.testBit_two_pow]
      by_cases z : m = k
      · subst z; simp [h]
      · have : ¬ k = m := fun y => z y.symm
        by_cases y : m < k
        · simp [y, this, show m < k + 1 by omega]
        · simp [y, this, show ¬ m < k + 1 by omega]
    · rw [if_neg h, ih]
      by_cases z : m = k
      · subst z
        have : f (m + 1) = 0 := by omega
        simp [this]
      · by_cases y : m < k
        · simp [y, show m < k + 1 by omega]
        · simp [y, show ¬ m < k + 1 by omega]
section PINS
variable {c ho pa : Nat} {f : Nat → Nat}
theorem WF.pinP (h : WF c ho pa f) {d : Nat} (hd : d < 15) (h0 : f (d + 1) ≠ 0) : pa.testBit d = true ∧ 1 ≤ f (d + 1) ∧ f (d + 1) + d < c ∧ (plM c ho).testBit (f (d + 1) - 1) = true ∧ (plM c ho).testBit (f (d + 1) + d) = true := by
  rcases h.2.2.2.2.1 (d + 1) (by omega) with e | ⟨e1, e2, e3, e4, e5, e6⟩
  · exact absurd e h0
  · rw [Nat.add_sub_cancel] at e2
    rw [show f (d + 1) + (d + 1) - 1 = f (d + 1) + d by omega] at e6
    refine ⟨e2, e3, by omega, ?_, ?_⟩
    · rw [plM_bit, e5]; simp; omega
    · rw [plM_bit, e6]; simp; omega
theorem WF.pins (h : WF c ho pa f) : PinsIn f 0 (plM c ho) pa := by
  refine ⟨fun d h1 h2 h3 => ?_, fun d e h1 h2 h3 h4 h5 => ?_⟩
  · have := h.pinP h1 h3
    exact ⟨by omega, this.2.2.2.1, this.2.2.2.2⟩
  · have := h.2.2.2.2.2 (d + 1) (e + 1) (by omega) (by omega) (by omega) h4 h5
    have := h.2.2.2.2.2 (e + 1) (d + 1) (by omega) (by omega) (by omega) h5 h4
    omega
/-- free and unused without the pins -/
def frO (c ho : Nat) (f : Nat → Nat) : Nat := msk (plM c ho) (pinM f 0 15)
def unO (pa : Nat) (f : Nat → Nat) : Nat := msk pa (pinD f 15)
theorem enuP_start (h : WF c ho pa f) : enuP f c 0 (plM c ho) pa = (enu c 0 (frO c ho f) (unO pa f)).map (mg f c 0) := by
  refine enuP_enu c 0 _ _ _ _ h.2.2.1 h.pins (fun d h1 h2 _ => (h.pinP h1 h2).1) (fun k => ?_) (fun i => ?_) (fun d h1 h2 h3 => ?_)
  · unfold frO
    rw [msk_bit]
    congr 2
    rw [Bool.eq_iff_iff, pinM_iff, pinB_iff]
    exact ⟨fun ⟨d, a1, a2, a3⟩ => ⟨d, a1, (h.pinP a1 a2).1, a2, a3⟩, fun ⟨d, a1, _, a2, a3⟩ => ⟨d, a1, a2, a3⟩⟩
  · unfold unO
    rw [msk_bit, pinD_iff]
    by_cases z : i < 15
    · by_cases y : f (i + 1) = 0
      · simp [z, y]
      · simp [z, y]
    · rw [Nat.testBit_lt_two_pow (Nat.lt_of_lt_of_le h.2.2.1 (Nat.pow_le_pow_right (by decide) (by omega)))]
      rfl
  · have := h.pinP h1 h3; omega
def npN (f : Nat → Nat) : Nat → Nat
  | 0 => 0
  | k + 1 => npN f k + if f (k + 1) ≠ 0 then 1 else 0
theorem msk_or {A B E : Nat} : msk A (B ||| E) = msk (msk A B) E := Nat.eq_of_testBit_eq fun k => by
  rw [msk_bit, msk_bit, msk_bit, Nat.testBit_or]
  cases A.testBit k <;> cases B.testBit k <;> cases E.testBit k <;> rfl
theorem ar0 {a : Nat} : a + 2 * 0 = a ∧ a + 0 = a := ⟨by omega, by omega⟩
theorem ar1 {a b c m p : Nat} (h1 : b + 1 = a) (h2 : c + 1 = b) (ih : a + 2 * m = p) : c + 2 * (m + 1) = p := by omega
theorem ar2 {a b m p : Nat} (h1 : b + 1 = a) (ih : a + m = p) : b + (m + 1) = p := by omega
theorem ar3 {a b c d m : Nat} (h1 : a + 2 * m = b) (h2 : c + m = d) (h3 : b = 2 * d) (h4 : d ≤ 9) : a = 2 * c ∧ c ≤ 9 := by omega
theorem pc_pins (h : WF c ho pa f) : ∀ k, k ≤ 15 → pc (msk (plM c ho) (pinM f 0 k)) + 2 * npN f k = pc (plM c ho) ∧ pc (msk pa (pinD f k)) + npN f k = pc pa
  | 0, _ => by
    have e : ∀ A, msk A 0 = A := fun A => by unfold msk; rw [Nat.and_zero, Nat.xor_zero]
    rw [pinM, pinD, e, e, npN]
    exact ⟨ar0.1, ar0.2⟩
  | k + 1, hk => by
    have ih := pc_pins h k (by omega)
    have hc := h.1
    rw [pinM, pinD, npN]
    by_cases h0 : f (k + 1) ≠ 0
    · have hp := h.pinP (d := k) (by omega) h0
      rw [if_pos ⟨h0, by omega⟩, if_pos h0, if_pos h0, msk_or, msk_or, msk_or]
      have no : ∀ m, (m = f (k + 1) - 1 ∨ m = f (k + 1) + k) → (pinM f 0 k).testBit m = false := fun m hm => by
        cases z : (pinM f 0 k).testBit m with
        | false => rfl
        | true =>
          obtain ⟨d, d1, d2, d3⟩ := (pinM_iff k).mp z
          have a1 := h.pins.2 d k (by omega) (by omega) (by omega) d2 h0
          have a2 := h.pins.2 k d (by omega) (by omega) (by omega) h0 d2
          have a3 := (h.pinP (d := d) (by omega) d2).2.1
          omega
      have b1 := pc_msk (A := msk (plM c ho) (pinM f 0 k)) (a := f (k + 1) - 1) (by omega) (by rw [msk_bit, hp.2.2.2.1, no _ (Or.inl rfl)]; rfl)
      have b2 := pc_msk (A := msk (msk (plM c ho) (pinM f 0 k)) (2 ^ (f (k + 1) - 1))) (a := f (k + 1) + (k + 1) - 1) (by omega) (by
        rw [msk1, msk_bit, show f (k + 1) + (k + 1) - 1 = f (k + 1) + k by omega, hp.2.2.2.2, no _ (Or.inr rfl)]
        simp
        omega)
      have b3 := pc_msk (A := msk pa (pinD f k)) (a := k) (by omega) (by rw [msk_bit, pinD_iff, hp.1]; simp)
      exact ⟨ar1 b1 b2 ih.1, ar2 b3 ih.2⟩
    · rw [if_neg (fun z => h0 z.1), if_neg h0, if_neg h0]
      exact ih
theorem pc_start (h : WF c ho pa f) (hev : evF c ho pa = true) : pc (frO c ho f) = 2 * pc (unO pa f) ∧ pc (unO pa f) ≤ 9 := by
  have a := pc_pins h 15 (by omega)
  unfold evF at hev
  simp only [Bool.and_eq_true, beq_iff_eq] at hev
  unfold frO unO
  exact ar3 a.1 a.2 hev.1 h.2.2.2.1
theorem frO_lt (h : WF c ho pa f) : frO c ho f < 2 ^ c := msk_lt (plM_lt h.2.1)
theorem unO_lt (h : WF c ho pa f) : unO pa f < 2 ^ 15 := msk_lt h.2.2.1
/-- the pins as a list -/
def pls (f : Nat → Nat) : Nat → List (Nat × Nat)
  | 0 => []
  | d + 1 => if f (d + 1) ≠ 0 then (f (d + 1) - 1, d) :: pls f d else pls f d
theorem pls_count {f : Nat → Nat} (p : Nat × Nat) : ∀ k, (pls f k).count p = if p.2 < k ∧ f (p.2 + 1) = p.1 + 1 then 1 else 0
  | 0 => by rw [pls, if_neg (by omega)]; rfl
  | k + 1 => by
    have ih := pls_count (f := f) p k
    rw [pls]
    by_cases h0 : f (k + 1) ≠ 0
    · rw [if_pos h0, List.count_cons, ih]
      by_cases z : p.2 = k
      · rw [if_neg (by omega)]
        by_cases y : f (k + 1) = p.1 + 1
        · rw [if_pos (by simp; exact Prod.ext (by show f (k + 1) - 1 = p.1; omega) z.symm), if_pos ⟨by omega, by rw [z]; exact y⟩]
        · rw [if_neg (by simp; intro e; apply y; have := congrArg Prod.fst e; have : f (k + 1) - 1 = p.1 := this; omega), if_neg (fun t => y (by rw [← z]; exact t.2))]
      · rw [if_neg (c := ((f (k + 1) - 1, k) == p) = true) (by simp; intro e; exact z (by rw [← e]))]
        by_cases y : p.2 < k ∧ f (p.2 + 1) = p.1 + 1
        · rw [if_pos y, if_pos ⟨by omega, y.2⟩]
        · rw [if_neg y, if_neg (fun t => y ⟨by omega, t.2⟩)]
    · rw [if_neg h0, ih]
      by_cases y : p.2 < k ∧ f (p.2 + 1) = p.1 + 1
      · rw [if_pos y, if_pos ⟨by omega, y.2⟩]
      · rw [if_neg y, if_neg (fun t => y ⟨by
          have : p.2 ≠ k := fun z => by have := t.2; rw [z] at this; omega
          omega, t.2⟩)]
theorem mg_perm (h : WF c ho pa f) (e : List (Nat × Nat)) : (mg f c 0 e).Perm (pls f 15 ++ e) := by
  refine List.perm_iff_count.mpr fun p => ?_
  rw [mg_count, List.count_append, pls_count, Nat.add_comm]
  congr 1
  by_cases z : p.2 < 15 ∧ f (p.2 + 1) = p.1 + 1
  · have hp := h.pinP z.1 (by omega)
    rw [if_pos z, if_pos]
    refine ⟨Nat.zero_le _, by omega, ?_⟩
    cases q : pinAt f p.1 with
    | none => exact absurd z.2 (pinAt_none q z.1)
    | some i =>
      obtain ⟨a1, a2⟩ := pinAt_some q
      by_cases y : i = p.2
      · rw [y]
      · exact absurd (a2.trans z.2.symm) (h.pins.2 i p.2 a1 z.1 y (by omega) (by omega)).1
  · rw [if_neg z, if_neg (fun y => z (pinAt_some y.2.2))]
theorem FL_map (h : WF c ho pa f) (hev : evF c ho pa = true) : FL c ho pa f = (enu c 0 (frO c ho f) (unO pa f)).map (mg f c 0) := by
  unfold FL
  rw [if_pos hev, enuP_start h]
theorem cf_perm {g k : List (Nat × Nat) → List (Nat × Nat)} (p : Nat × Nat) : ∀ (E : List (List (Nat × Nat))), (∀ e, (g e).Perm (k e)) → cf p (E.map g) = cf p (E.map k)
  | [], _ => rfl
  | e :: E, h => by rw [List.map_cons, List.map_cons, cf, cf, (h e).count_eq, cf_perm p E h]
end PINS
