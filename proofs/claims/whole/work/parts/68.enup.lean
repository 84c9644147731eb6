/-! with pins: what the model goes through -/
def enuP (f : Nat → Nat) : Nat → Nat → Nat → Nat → List (List (Nat × Nat))
  | 0, _, _, un => if un = 0 then [[]] else []
  | j + 1, q, fr, un => if fr.testBit q = true then (List.range 15).flatMap (fun i => if un.testBit i = true ∧ fr.testBit (q + i + 1) = true ∧ (f (i + 1) = 0 ∨ f (i + 1) = q + 1) then (enuP f j (q + 1) (msk (msk fr (2 ^ q)) (2 ^ (q + i + 1))) (msk un (2 ^ i))).map (fun e => (q, i) :: e) else []) else enuP f j (q + 1) fr un
theorem enuP_dead {f : Nat → Nat} {d : Nat} (h0 : f (d + 1) ≠ 0) : ∀ (j q fr un : Nat), un.testBit d = true → (f (d + 1) ≤ q ∨ fr.testBit (f (d + 1) - 1) = false ∨ fr.testBit (f (d + 1) + d) = false) → enuP f j q fr un = []
  | 0, q, fr, un, hu, _ => by
    rw [enuP, if_neg (fun e => by rw [e, Nat.zero_testBit] at hu; cases hu)]
  | j + 1, q, fr, un, hu, hd => by
    rw [enuP]
    split
    · rename_i hq
      refine List.flatMap_eq_nil_iff.mpr fun i hi => ?_
      split
      · rename_i h
        have hid : i ≠ d := fun e => by
          subst e
          rcases h.2.2 with z | z
          · exact h0 z
          · rw [z] at hd
            rcases hd with y | y | y
            · omega
            · rw [Nat.add_sub_cancel, hq] at y; cases y
            · rw [show q + 1 + i = q + i + 1 by omega, h.2.1] at y; cases y
        rw [enuP_dead h0 j (q + 1) _ _ (by rw [msk1, hu]; simp; exact fun e => hid e.symm) (by
          rcases hd with y | y | y
          · exact Or.inl (by omega)
          · exact Or.inr (Or.inl (by rw [msk1, msk1, y]; rfl))
          · exact Or.inr (Or.inr (by rw [msk1, msk1, y]; rfl)))]
        rfl
      · rfl
    · exact enuP_dead h0 j (q + 1) fr un hu (by
        rcases hd with y | y | y
        · exact Or.inl (by omega)
        · exact Or.inr (Or.inl y)
        · exact Or.inr (Or.inr y))
/-- the pin that begins at a place -/
def pinAt (f : Nat → Nat) (q : Nat) : Option Nat := (List.range 15).find? (fun i => f (i + 1) == q + 1)
theorem pinAt_some {f : Nat → Nat} {q i : Nat} (h : pinAt f q = some i) : i < 15 ∧ f (i + 1) = q + 1 := by
  unfold pinAt at h
  have h1 := List.find?_some h
  have h2 := List.mem_of_find?_eq_some h
  exact ⟨List.mem_range.mp h2, by simpa using h1⟩
theorem pinAt_none {f : Nat → Nat} {q : Nat} (h : pinAt f q = none) {i : Nat} (hi : i < 15) : f (i + 1) ≠ q + 1 := by
  unfold pinAt at h
  have := List.find?_eq_none.mp h i (List.mem_range.mpr hi)
  simpa using this
def mgS (q : Nat) (r : List (Nat × Nat) → List (Nat × Nat)) : Option Nat → List (Nat × Nat) → List (Nat × Nat)
  | some i, e => (q, i) :: r e
  | none, [] => r []
  | none, p :: e => if p.1 = q then p :: r e else r (p :: e)
def mg (f : Nat → Nat) : Nat → Nat → List (Nat × Nat) → List (Nat × Nat)
  | 0, _ => fun e => e
  | j + 1, q => mgS q (mg f j (q + 1)) (pinAt f q)
def pinB (f : Nat → Nat) (un k : Nat) : Bool := (List.range 15).any (fun d => un.testBit d && decide (f (d + 1) ≠ 0 ∧ (k = f (d + 1) - 1 ∨ k = f (d + 1) + d)))
theorem pinB_iff {f : Nat → Nat} {un k : Nat} : pinB f un k = true ↔ ∃ d, d < 15 ∧ un.testBit d = true ∧ f (d + 1) ≠ 0 ∧ (k = f (d + 1) - 1 ∨ k = f (d + 1) + d) := by
  unfold pinB
  rw [List.any_eq_true]
  constructor
  · rintro ⟨d, h1, h2⟩
    simp only [Bool.and_eq_true, decide_eq_true_eq] at h2
    exact ⟨d, List.mem_range.mp h1, h2.1, h2.2⟩
  · rintro ⟨d, h1, h2, h3⟩
    refine ⟨d, List.mem_range.mpr h1, ?_⟩
    simp only [Bool.and_eq_true, decide_eq_true_eq]
    exact ⟨h2, h3⟩
theorem pinB_no {f : Nat → Nat} {un k : Nat} (h : ¬ ∃ d, d < 15 ∧ un.testBit d = true ∧ f (d + 1) ≠ 0 ∧ (k = f (d + 1) - 1 ∨ k = f (d + 1) + d)) : pinB f un k = false := by
  cases q : pinB f un k with
  | false => rfl
  | true => exact absurd (pinB_iff.mp q) h
theorem enu_ge : ∀ (j q fr un : Nat) (e : List (Nat × Nat)), e ∈ enu j q fr un → ∀ p ∈ e, q ≤ p.1
  | 0, q, fr, un, e, h, p, hp => by
    rw [enu] at h
    split at h
    · rw [List.mem_singleton.mp h] at hp; cases hp
    · cases h
  | j + 1, q, fr, un, e, h, p, hp => by
    rw [enu] at h
    split at h
    · obtain ⟨i, _, hi⟩ := List.mem_flatMap.mp h
      split at hi
      · obtain ⟨e', h1, rfl⟩ := List.mem_map.mp hi
        rcases List.mem_cons.mp hp with rfl | z
        · exact Nat.le_refl _
        · have := enu_ge j (q + 1) _ _ e' h1 p z; omega
      · cases hi
    · have := enu_ge j (q + 1) _ _ e h p hp; omega
theorem flatMap_cong {α β : Type} {l : List α} {g h : α → List β} (e : ∀ a ∈ l, g a = h a) : l.flatMap g = l.flatMap h := by
  induction l with
  | nil => rfl
  | cons a l ih => rw [List.flatMap_cons, List.flatMap_cons, e a (List.mem_cons_self ..), ih (fun b hb => e b (List.mem_cons_of_mem _ hb))]
theorem flat_one {α : Type} {g : Nat → List α} {n i : Nat} (hi : i < n) (h : ∀ k, k < n → k ≠ i → g k = []) : (List.range n).flatMap g = g i := by
  have := flat_low (g := g) (m := 0) (i := i) (n := n) (by omega) hi (fun k _ h2 => h k (by omega) (by omega))
  rw [Nat.sub_zero, ← List.range_eq_range'] at this
  rw [this]
  have e : (List.range' (i + 1) (n - (i + 1))).flatMap g = [] := List.flatMap_eq_nil_iff.mpr fun k hk => by
    have := List.mem_range'_1.mp hk
    exact h k (by omega) (by omega)
  rw [e, List.append_nil]
/-- pins that are still to come lie on free places, apart -/
def PinsIn (f : Nat → Nat) (q fr un : Nat) : Prop := (∀ d, d < 15 → un.testBit d = true → f (d + 1) ≠ 0 → q < f (d + 1) ∧ fr.testBit (f (d + 1) - 1) = true ∧ fr.testBit (f (d + 1) + d) = true) ∧
  ∀ d e, d < 15 → e < 15 → d ≠ e → f (d + 1) ≠ 0 → f (e + 1) ≠ 0 → f (d + 1) ≠ f (e + 1) ∧ f (d + 1) + d + 1 ≠ f (e + 1) + e + 1 ∧ f (d + 1) + d + 1 ≠ f (e + 1)
theorem enuP_enu {f : Nat → Nat} : ∀ (j q fr un fr' un' : Nat), un < 2 ^ 15 → PinsIn f q fr un → (∀ d, d < 15 → f (d + 1) ≠ 0 → q < f (d + 1) → un.testBit d = true) →
    (∀ k, fr'.testBit k = (fr.testBit k && !pinB f un k)) → (∀ i, un'.testBit i = (un.testBit i && decide (f (i + 1) = 0))) →
    (∀ d, d < 15 → un.testBit d = true → f (d + 1) ≠ 0 → f (d + 1) ≤ q + j) → enuP f j q fr un = (enu j q fr' un').map (mg f j q)
  | 0, q, fr, un, fr', un', hun, hP, hA, hfr, hu, hend => by
    have : un' = un := Nat.eq_of_testBit_eq fun i => by
      rw [hu i]
      by_cases hi : un.testBit i = true
      · rw [hi]
        have hi15 : i < 15 := by
          by_cases z : i < 15
          · exact z
          · rw [Nat.testBit_lt_two_pow (Nat.lt_of_lt_of_le hun (Nat.pow_le_pow_right (by decide) (by omega)))] at hi; cases hi
        by_cases z : f (i + 1) = 0
        · simp [z]
        · have h1 := (hP.1 i hi15 hi z).1
          have h2 := hend i hi15 hi z
          omega
      · simp only [Bool.not_eq_true] at hi
        rw [hi]; rfl
    rw [enuP, enu, this]
    split <;> rfl
  | j + 1, q, fr, un, fr', un', hun, hP, hA, hfr, hu, hend => by
    have h15 : ∀ i, un.testBit i = true → i < 15 := fun i hi => by
      by_cases z : i < 15
      · exact z
      · rw [Nat.testBit_lt_two_pow (Nat.lt_of_lt_of_le hun (Nat.pow_le_pow_right (by decide) (by omega)))] at hi; cases hi
    rw [enuP, enu]
    cases hq : fr.testBit q with
    | false =>
      have hno : pinAt f q = none := by
        cases hp : pinAt f q with
        | none => rfl
        | some i =>
          obtain ⟨h1, h2⟩ := pinAt_some hp
          have h3 := (hP.1 i h1 (hA i h1 (by omega) (by omega)) (by omega)).2.1
          rw [h2, Nat.add_sub_cancel, hq] at h3
          cases h3
      rw [if_neg (by decide), if_neg (by rw [hfr, hq]; simp)]
      rw [enuP_enu j (q + 1) fr un fr' un' hun ⟨fun d h1 h2 h3 => ⟨by
        have := (hP.1 d h1 h2 h3).1
        have := pinAt_none hno h1
        omega, (hP.1 d h1 h2 h3).2⟩, hP.2⟩ (fun d h1 h2 h3 => hA d h1 h2 (by omega)) hfr hu (fun d h1 h2 h3 => by have := hend d h1 h2 h3; omega)]
      refine List.map_congr_left fun e he => ?_
      rw [mg, hno]
      cases e with
      | nil => rfl
      | cons p e' =>
        have := enu_ge _ _ _ _ _ he p (List.mem_cons_self ..)
        show _ = if p.1 = q then _ else _
        rw [if_neg (by omega)]
    | true =>
      rw [if_pos rfl]
      cases hp : pinAt f q with
      | some i =>
        obtain ⟨h1, h2⟩ := pinAt_some hp
        have hui := hA i h1 (by omega) (by omega)
        have hpi := hP.1 i h1 hui (by omega)
        rw [h2] at hpi
        rw [if_neg (by rw [hfr, hq, pinB_iff.mpr ⟨i, h1, hui, by omega, Or.inl (by omega)⟩]; decide)]
        rw [flat_one h1 (fun k hk hne => ?_), if_pos ⟨hui, by rw [show q + i + 1 = q + 1 + i by omega]; exact hpi.2.2, Or.inr h2⟩]
        · rw [enuP_enu j (q + 1) _ _ fr' un' (msk_lt hun) ⟨fun d g1 g2 g3 => ?_, hP.2⟩ (fun d g1 g2 g3 => ?_) (fun k => ?_) (fun k => ?_) (fun d g1 g2 g3 => ?_), List.map_map]
          · refine List.map_congr_left fun e he => ?_
            rw [mg, hp]
            rfl
          · rw [msk1] at g2
            simp only [Bool.and_eq_true, decide_eq_true_eq] at g2
            have a1 := hP.1 d g1 g2.1 g3
            have a2 := hP.2 d i g1 h1 g2.2 g3 (by omega)
            have a3 := hP.2 i d h1 g1 (fun e => g2.2 e.symm) (by omega) g3
            rw [h2] at a2 a3
            rw [msk1, msk1, msk1, msk1, a1.2.1, a1.2.2]
            refine ⟨by omega, ?_, ?_⟩
            · simp; omega
            · simp; omega
          · rw [msk1, hA d g1 g2 (by omega)]
            simp
            intro e
            subst e
            omega
          · rw [hfr k, msk1, msk1]
            by_cases k1 : k = q
            · subst k1
              have : (∃ d, d < 15 ∧ un.testBit d = true ∧ f (d + 1) ≠ 0 ∧ (k = f (d + 1) - 1 ∨ k = f (d + 1) + d)) := ⟨i, h1, hui, by omega, Or.inl (by omega)⟩
              rw [pinB_iff.mpr this]
              simp
            · by_cases k2 : k = q + i + 1
              · have : (∃ d, d < 15 ∧ un.testBit d = true ∧ f (d + 1) ≠ 0 ∧ (k = f (d + 1) - 1 ∨ k = f (d + 1) + d)) := ⟨i, h1, hui, by omega, Or.inr (by omega)⟩
                rw [pinB_iff.mpr this]
                simp [k2]
              · have : (∃ d, d < 15 ∧ un.testBit d = true ∧ f (d + 1) ≠ 0 ∧ (k = f (d + 1) - 1 ∨ k = f (d + 1) + d)) ↔ (∃ d, d < 15 ∧ (msk un (2 ^ i)).testBit d = true ∧ f (d + 1) ≠ 0 ∧ (k = f (d + 1) - 1 ∨ k = f (d + 1) + d)) := by
                  constructor
                  · rintro ⟨d, b1, b2, b3, b4⟩
                    refine ⟨d, b1, ?_, b3, b4⟩
                    rw [msk1, b2]
                    simp
                    intro e
                    subst e
                    omega
                  · rintro ⟨d, b1, b2, b3, b4⟩
                    refine ⟨d, b1, ?_, b3, b4⟩
                    rw [msk1] at b2
                    simp only [Bool.and_eq_true] at b2
                    exact b2.1
                rw [Bool.eq_iff_iff.mpr (pinB_iff.trans (this.trans pinB_iff.symm))]
                simp [k1, k2]
          · rw [hu k, msk1]
            by_cases e : k = i
            · subst e
              simp [h2]
            · simp [e]
          · rw [msk1] at g2
            simp only [Bool.and_eq_true] at g2
            have := hend d g1 g2.1 g3
            omega
        · split
          · rename_i h
            rw [enuP_dead (d := i) (by omega) j (q + 1) _ _ (by rw [msk1, hui]; simp; exact fun e => hne e.symm) (Or.inl (by omega))]
            rfl
          · rfl
      | none =>
        have hno : ∀ d, d < 15 → f (d + 1) ≠ q + 1 := fun d hd => pinAt_none hp hd
        rw [if_pos (by
          rw [hfr, hq, pinB_no]
          · rfl
          · rintro ⟨d, d1, d2, d3, d4⟩
            have := (hP.1 d d1 d2 d3).1
            have := hno d d1
            omega), List.map_flatMap]
        refine flatMap_cong fun i hi => ?_
        have hi := List.mem_range.mp hi
        by_cases hu1 : un.testBit i = true
        · by_cases hf0 : f (i + 1) = 0
          · by_cases hfi : fr.testBit (q + i + 1) = true
            · rw [if_pos ⟨hu1, hfi, Or.inl hf0⟩]
              by_cases hpin : ∃ d, d < 15 ∧ un.testBit d = true ∧ f (d + 1) ≠ 0 ∧ (q + i + 1 = f (d + 1) - 1 ∨ q + i + 1 = f (d + 1) + d)
              · rw [if_neg (by rw [hfr, pinB_iff.mpr hpin]; simp)]
                obtain ⟨d, d1, d2, d3, d4⟩ := hpin
                have hdi : d ≠ i := fun e => by subst e; exact d3 hf0
                rw [enuP_dead (d := d) d3 j (q + 1) _ _ (by rw [msk1, d2]; simp; exact hdi) (by
                  rcases d4 with z | z
                  · exact Or.inr (Or.inl (by rw [← z, msk1]; simp))
                  · exact Or.inr (Or.inr (by rw [← z, msk1]; simp)))]
                rfl
              · rw [if_pos (by rw [hfr, hfi, hu, hu1, hf0, pinB_no hpin]; simp)]
                rw [enuP_enu j (q + 1) _ _ (msk (msk fr' (2 ^ q)) (2 ^ (q + i + 1))) (msk un' (2 ^ i)) (msk_lt hun) ⟨fun d g1 g2 g3 => ?_, hP.2⟩ (fun d g1 g2 g3 => ?_) (fun k => ?_) (fun k => ?_) (fun d g1 g2 g3 => ?_), List.map_map, List.map_map]
                · refine List.map_congr_left fun e he => ?_
                  show (q, i) :: mg f j (q + 1) e = mg f (j + 1) q ((q, i) :: e)
                  rw [mg, hp]
                  show _ = if q = q then _ else _
                  rw [if_pos rfl]
                · rw [msk1] at g2
                  simp only [Bool.and_eq_true, decide_eq_true_eq] at g2
                  have a1 := hP.1 d g1 g2.1 g3
                  have a2 := hno d g1
                  rw [msk1, msk1, msk1, msk1, a1.2.1, a1.2.2]
                  refine ⟨by omega, ?_, ?_⟩
                  · have : q + i + 1 ≠ f (d + 1) - 1 := fun e => hpin ⟨d, g1, g2.1, g3, Or.inl e⟩
                    simp; omega
                  · have : q + i + 1 ≠ f (d + 1) + d := fun e => hpin ⟨d, g1, g2.1, g3, Or.inr e⟩
                    simp; omega
                · rw [msk1, hA d g1 g2 (by omega)]
                  simp
                  intro e
                  subst e
                  omega
                · rw [msk1, msk1, msk1, msk1, hfr k]
                  have : (∃ d, d < 15 ∧ un.testBit d = true ∧ f (d + 1) ≠ 0 ∧ (k = f (d + 1) - 1 ∨ k = f (d + 1) + d)) ↔ (∃ d, d < 15 ∧ (msk un (2 ^ i)).testBit d = true ∧ f (d + 1) ≠ 0 ∧ (k = f (d + 1) - 1 ∨ k = f (d + 1) + d)) := by
                    constructor
                    · rintro ⟨d, b1, b2, b3, b4⟩
                      refine ⟨d, b1, ?_, b3, b4⟩
                      rw [msk1, b2]
                      simp
                      intro e
                      subst e
                      omega
                    · rintro ⟨d, b1, b2, b3, b4⟩
                      refine ⟨d, b1, ?_, b3, b4⟩
                      rw [msk1] at b2
                      simp only [Bool.and_eq_true] at b2
                      exact b2.1
                  rw [Bool.eq_iff_iff.mpr (pinB_iff.trans (this.trans pinB_iff.symm))]
                  cases fr.testBit k <;> cases decide (k ≠ q) <;> cases decide (k ≠ q + i + 1) <;> simp
                · rw [msk1, msk1, hu k]
                  cases un.testBit k <;> cases decide (k ≠ i) <;> simp
                · rw [msk1] at g2
                  simp only [Bool.and_eq_true] at g2
                  have := hend d g1 g2.1 g3
                  omega
            · rw [if_neg (fun z => hfi z.2.1), if_neg (fun z => hfi (by have := z.2; rw [hfr] at this; simp only [Bool.and_eq_true] at this; exact this.1))]
              rfl
          · rw [if_neg (fun z => z.2.2.elim hf0 (hno i hi)), if_neg (fun z => hf0 (by have := z.1; rw [hu] at this; simp only [Bool.and_eq_true, decide_eq_true_eq] at this; exact this.2))]
            rfl
        · rw [if_neg (fun z => hu1 z.1), if_neg (fun z => hu1 (by have := z.1; rw [hu] at this; simp only [Bool.and_eq_true] at this; exact this.1))]
          rfl
theorem mg_count {f : Nat → Nat} (p : Nat × Nat) : ∀ (j q : Nat) (e : List (Nat × Nat)), (mg f j q e).count p = e.count p + if q ≤ p.1 ∧ p.1 < q + j ∧ pinAt f p.1 = some p.2 then 1 else 0
  | 0, q, e => by rw [mg, if_neg (by omega)]; rfl
  | j + 1, q, e => by
    have key : ∀ t : Nat, (p.1 = q → pinAt f q ≠ some p.2) → (t + if q + 1 ≤ p.1 ∧ p.1 < q + 1 + j ∧ pinAt f p.1 = some p.2 then 1 else 0) = t + if q ≤ p.1 ∧ p.1 < q + (j + 1) ∧ pinAt f p.1 = some p.2 then 1 else 0 := fun t h => by
      by_cases z : p.1 = q
      · rw [if_neg (by omega), if_neg (fun y => h z (by rw [← z]; exact y.2.2))]
      · by_cases y : q + 1 ≤ p.1 ∧ p.1 < q + 1 + j ∧ pinAt f p.1 = some p.2
        · rw [if_pos y, if_pos ⟨by omega, by omega, y.2.2⟩]
        · rw [if_neg y, if_neg (fun y' => y ⟨by omega, by omega, y'.2.2⟩)]
    rw [mg]
    cases hp : pinAt f q with
    | some i =>
      show ((q, i) :: mg f j (q + 1) e).count p = _
      rw [List.count_cons, mg_count p j (q + 1) e]
      by_cases z : p = (q, i)
      · subst z
        rw [if_neg (by omega), if_pos (by simp), if_pos ⟨Nat.le_refl _, by show q < q + (j + 1); omega, hp⟩]
      · have hne : ¬ ((q, i) == p) = true := by simp; exact fun e => z e.symm
        rw [if_neg (c := ((q, i) == p) = true) hne]
        exact key _ (fun e1 e2 => z (by rw [hp] at e2; exact Prod.ext e1 (Option.some.inj e2).symm))
    | none =>
      have k := fun t => key t (fun _ => by rw [hp]; exact fun z => by cases z)
      cases e with
      | nil =>
        show (mg f j (q + 1) []).count p = _
        rw [mg_count p j (q + 1) []]
        exact k _
      | cons a e' =>
        show (if a.1 = q then a :: mg f j (q + 1) e' else mg f j (q + 1) (a :: e')).count p = _
        split
        · rw [List.count_cons, mg_count p j (q + 1) e', List.count_cons, Nat.add_right_comm]
          exact k _
        · rw [mg_count p j (q + 1) _]
          exact k _
