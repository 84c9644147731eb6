/-! how many fillings: one distance set first -/
theorem msk_comm {A x y : Nat} : msk (msk A x) y = msk (msk A y) x := Nat.eq_of_testBit_eq fun k => by
  rw [msk_bit, msk_bit, msk_bit, msk_bit]
  cases A.testBit k <;> cases x.testBit k <;> cases y.testBit k <;> rfl
theorem sumK_le {g h : Nat → Nat} : ∀ n, (∀ k, k < n → g k ≤ h k) → sumK g n ≤ sumK h n
  | 0, _ => Nat.le_refl _
  | n + 1, e => by
    rw [sumK, sumK]
    have := sumK_le n (fun k hk => e k (by omega))
    have := e n (by omega)
    omega
theorem sumK_0 : ∀ n, sumK (fun _ => 0) n = 0
  | 0 => rfl
  | n + 1 => by rw [sumK, sumK_0 n]
theorem sumK_comm {g : Nat → Nat → Nat} (m : Nat) : ∀ n, sumK (fun i => sumK (fun p => g i p) m) n = sumK (fun p => sumK (fun i => g i p) n) m
  | 0 => by
    show 0 = sumK (fun p => 0) m
    rw [sumK_0]
  | n + 1 => by
    rw [sumK, sumK_comm m n]
    have : (fun p => sumK (fun i => g i p) (n + 1)) = fun p => sumK (fun i => g i p) n + g n p := rfl
    rw [this, sumK_add]
theorem flat_sum {α : Type} {g : Nat → List α} : ∀ n, ((List.range n).flatMap g).length = sumK (fun i => (g i).length) n
  | 0 => rfl
  | n + 1 => by
    rw [List.range_succ, List.flatMap_append, List.length_append, flat_sum n, sumK]
    simp
def exF (j q fr un D p : Nat) : Nat := if fr.testBit p = true ∧ fr.testBit (p + D + 1) = true then (enu j q (msk (msk fr (2 ^ p)) (2 ^ (p + D + 1))) (msk un (2 ^ D))).length else 0
theorem enu_step {j q fr un : Nat} (h : fr.testBit q = true) : (enu (j + 1) q fr un).length = sumK (fun i => if un.testBit i = true ∧ fr.testBit (q + i + 1) = true then (enu j (q + 1) (msk (msk fr (2 ^ q)) (2 ^ (q + i + 1))) (msk un (2 ^ i))).length else 0) 15 := by
  rw [enu, if_pos h, flat_sum]
  congr 1
  funext i
  split
  · rw [List.length_map]
  · rfl
theorem enu_no {j q fr un : Nat} (h : fr.testBit q = false) : enu (j + 1) q fr un = enu j (q + 1) fr un := by rw [enu, if_neg (by rw [h]; decide)]
theorem exch {D P : Nat} (hD : D < 15) : ∀ (j q fr un : Nat), un.testBit D = true → (∀ p, fr.testBit (p + D + 1) = true → p < P) → (enu j q fr un).length ≤ sumK (exF j q fr un D) P
  | 0, q, fr, un, hu, hP => by
    rw [enu, if_neg (fun e => by rw [e, Nat.zero_testBit] at hu; cases hu)]
    exact Nat.zero_le _
  | j + 1, q, fr, un, hu, hP => by
    cases hq : fr.testBit q with
    | false =>
      rw [enu_no hq]
      refine Nat.le_trans (exch hD j (q + 1) fr un hu hP) (sumK_le P fun p _ => ?_)
      unfold exF
      split
      · rw [enu_no (by rw [msk1, msk1, hq]; rfl)]
        exact Nat.le_refl _
      · exact Nat.le_refl _
    | true =>
      obtain ⟨hd, ehd⟩ : ∃ hd, hd = if fr.testBit (q + D + 1) = true then (enu j (q + 1) (msk (msk fr (2 ^ q)) (2 ^ (q + D + 1))) (msk un (2 ^ D))).length else 0 := ⟨_, rfl⟩
      obtain ⟨e, ee⟩ : ∃ e : Nat → Nat → Nat, e = fun i p => if i ≠ D ∧ un.testBit i = true ∧ fr.testBit (q + i + 1) = true then exF j (q + 1) (msk (msk fr (2 ^ q)) (2 ^ (q + i + 1))) (msk un (2 ^ i)) D p else 0 := ⟨_, rfl⟩
      have hl : (enu (j + 1) q fr un).length ≤ sumK (fun i => (if i = D then hd else 0) + sumK (fun p => e i p) P) 15 := by
        rw [enu_step hq]
        refine sumK_le 15 fun i _ => ?_
        by_cases z : i = D
        · rw [if_pos z, z, ehd, hu]
          simp only [true_and]
          omega
        · rw [if_neg z, Nat.zero_add]
          split
          · rename_i hc
            refine Nat.le_trans (exch hD j (q + 1) _ _ (by rw [msk1, hu]; simp; exact fun y => z y.symm) (fun p hp => hP p (by rw [msk1, msk1] at hp; simp only [Bool.and_eq_true] at hp; exact hp.1.1))) (sumK_le P fun p _ => ?_)
            rw [ee]
            show _ ≤ if i ≠ D ∧ un.testBit i = true ∧ fr.testBit (q + i + 1) = true then _ else 0
            rw [if_pos ⟨z, hc⟩]
            exact Nat.le_refl _
          · exact Nat.zero_le _
      have h1 : sumK (fun i => if i = D then hd else 0) 15 = hd := by
        rw [sumK_one (k0 := D) 15 (fun k _ hk => if_neg hk), if_pos hD]
        exact if_pos rfl
      have h2 : sumK (fun p => if p = q then hd else 0) P = hd := by
        rw [sumK_one (k0 := q) P (fun k _ hk => if_neg hk)]
        split
        · exact if_pos rfl
        · rename_i hqP
          rw [ehd, if_neg (fun y => hqP (hP q y))]
      rw [sumK_add, h1, sumK_comm, ← h2, ← sumK_add] at hl
      refine Nat.le_trans hl (sumK_le P fun p _ => ?_)
      show (if p = q then hd else 0) + sumK (fun i => e i p) 15 ≤ exF (j + 1) q fr un D p
      have e0 : (fr.testBit p = true ∧ fr.testBit (p + D + 1) = true ∧ p ≠ q ∧ p + D + 1 ≠ q) ∨ ∀ i, e i p = 0 := by
        by_cases y : fr.testBit p = true ∧ fr.testBit (p + D + 1) = true ∧ p ≠ q ∧ p + D + 1 ≠ q
        · exact Or.inl y
        · refine Or.inr fun i => ?_
          rw [ee]
          show (if i ≠ D ∧ un.testBit i = true ∧ fr.testBit (q + i + 1) = true then _ else 0) = 0
          split
          · unfold exF
            rw [if_neg]
            intro w
            rw [msk1, msk1, msk1, msk1] at w
            simp only [Bool.and_eq_true, decide_eq_true_eq] at w
            exact y ⟨w.1.1.1, w.2.1.1, w.1.1.2, w.2.1.2⟩
          · rfl
      rcases e0 with y | y
      · rw [if_neg y.2.2.1, Nat.zero_add]
        unfold exF
        rw [if_pos ⟨y.1, y.2.1⟩, enu_step (by
          rw [msk1, msk1, hq]
          simp
          exact ⟨fun w => y.2.2.1 w.symm, fun w => y.2.2.2 w.symm⟩)]
        refine sumK_le 15 fun i _ => ?_
        rw [ee]
        show (if i ≠ D ∧ un.testBit i = true ∧ fr.testBit (q + i + 1) = true then exF j (q + 1) (msk (msk fr (2 ^ q)) (2 ^ (q + i + 1))) (msk un (2 ^ i)) D p else 0) ≤ _
        by_cases w : i ≠ D ∧ un.testBit i = true ∧ fr.testBit (q + i + 1) = true
        · rw [if_pos w]
          unfold exF
          split
          · rename_i v
            rw [msk1, msk1, msk1, msk1] at v
            simp only [Bool.and_eq_true, decide_eq_true_eq] at v
            rw [if_pos ⟨by rw [msk1, w.2.1]; simp; exact w.1, by rw [msk1, msk1, w.2.2]; simp; exact ⟨fun u => v.1.2 u.symm, fun u => v.2.2 (by omega)⟩⟩]
            have c1 : msk (msk (msk (msk fr (2 ^ q)) (2 ^ (q + i + 1))) (2 ^ p)) (2 ^ (p + D + 1)) = msk (msk (msk (msk fr (2 ^ p)) (2 ^ (p + D + 1))) (2 ^ q)) (2 ^ (q + i + 1)) := by
              rw [msk_comm (x := 2 ^ (q + i + 1)) (y := 2 ^ p), msk_comm (x := 2 ^ (q + i + 1)) (y := 2 ^ (p + D + 1)), msk_comm (x := 2 ^ q) (y := 2 ^ p), msk_comm (x := 2 ^ q) (y := 2 ^ (p + D + 1))]
            rw [c1, msk_comm (A := un)]
            exact Nat.le_refl _
          · exact Nat.zero_le _
        · rw [if_neg w]
          exact Nat.zero_le _
      · have : sumK (fun i => e i p) 15 = 0 := by
          have : (fun i => e i p) = fun _ => 0 := funext y
          rw [this, sumK_0]
        rw [this, Nat.add_zero]
        by_cases z : p = q
        · rw [if_pos z, z, ehd]
          unfold exF
          split
          · rename_i w
            rw [if_pos ⟨hq, w⟩, enu_no (by rw [msk1, msk1]; simp)]
            exact Nat.le_refl _
          · exact Nat.zero_le _
        · rw [if_neg z]
          exact Nat.zero_le _
/-- places behind the last that is free don't count -/
theorem enu_up {m : Nat} : ∀ (j q fr un : Nat), (∀ k, q + j ≤ k → fr.testBit k = false) → enu (j + m) q fr un = enu j q fr un
  | 0, q, fr, un, h => by rw [Nat.zero_add, enu_none m q fr un (fun k h1 h2 => h k (by omega)), enu]
  | j + 1, q, fr, un, h => by
    rw [show j + 1 + m = (j + m) + 1 by omega, enu, enu]
    split
    · refine flatMap_cong fun i _ => ?_
      split
      · rw [enu_up j (q + 1) _ _ (fun k hk => by rw [msk1, msk1, h k (by omega)]; rfl)]
      · rfl
    · exact enu_up j (q + 1) fr un (fun k hk => h k (by omega))
def cN (fr un : Nat) : Nat := (enu 18 0 fr un).length
theorem cN_c {c fr un : Nat} (hc : c ≤ 18) (h : fr < 2 ^ c) : (enu c 0 fr un).length = cN fr un := by
  unfold cN
  have := enu_up (m := 18 - c) c 0 fr un (fun k hk => Nat.testBit_lt_two_pow (Nat.lt_of_lt_of_le h (Nat.pow_le_pow_right (by decide) (by omega))))
  rw [show c + (18 - c) = 18 by omega] at this
  rw [this]
theorem cN_exch {D fr un : Nat} (hD : D < 15) (hu : un.testBit D = true) (hfr : fr < 2 ^ 18) : cN fr un ≤ sumK (fun p => if fr.testBit p = true ∧ fr.testBit (p + D + 1) = true then cN (msk (msk fr (2 ^ p)) (2 ^ (p + D + 1))) (msk un (2 ^ D)) else 0) (17 - D) := exch hD 18 0 fr un hu (fun p hp => by
  by_cases z : p < 17 - D
  · exact z
  · rw [Nat.testBit_lt_two_pow (Nat.lt_of_lt_of_le hfr (Nat.pow_le_pow_right (by decide) (by omega)))] at hp
    cases hp)
