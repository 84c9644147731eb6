/-! a table of all sets of places in one number, ten bits a set -/
theorem msk_half {A B : Nat} : msk A B / 2 = msk (A / 2) (B / 2) := Nat.eq_of_testBit_eq fun k => by
  rw [← Nat.testBit_succ, msk_bit, msk_bit, Nat.testBit_succ, Nat.testBit_succ]
theorem msk_add : ∀ (a A : Nat), A.testBit a = true → msk A (2 ^ a) + 2 ^ a = A
  | 0, A, h => by
    have h1 : A % 2 = 1 := by
      rw [Nat.testBit_zero] at h
      simpa using h
    have h2 : msk A (2 ^ 0) / 2 = A / 2 := by
      rw [msk_half]
      show msk (A / 2) 0 = A / 2
      unfold msk
      rw [Nat.and_zero, Nat.xor_zero]
    have h3 : (msk A (2 ^ 0)).testBit 0 = false := by rw [msk1]; simp
    rw [Nat.testBit_zero] at h3
    have h3 : ¬ msk A (2 ^ 0) % 2 = 1 := by simpa using h3
    rw [Nat.pow_zero] at *
    omega
  | a + 1, A, h => by
    rw [Nat.testBit_succ] at h
    have ih := msk_add a (A / 2) h
    have h2 : msk A (2 ^ (a + 1)) / 2 = msk (A / 2) (2 ^ a) := by
      rw [msk_half, Nat.pow_succ, Nat.mul_div_cancel _ (by decide)]
    have h3 : (msk A (2 ^ (a + 1))).testBit 0 = A.testBit 0 := by rw [msk1]; simp
    rw [Nat.testBit_zero, Nat.testBit_zero] at h3
    have h3 : msk A (2 ^ (a + 1)) % 2 = A % 2 := by
      have := decide_eq_decide.mp h3
      omega
    rw [Nat.pow_succ] at *
    omega
def sl (A i : Nat) : Nat := A / 2 ^ (10 * i) % 1024
theorem sl_lt {A i : Nat} : sl A i < 1024 := Nat.mod_lt _ (by decide)
theorem sl_shift {A o i : Nat} : sl (Nat.shiftLeft A (Nat.mul 10 o)) i = if o ≤ i then sl A (i - o) else 0 := by
  have e : Nat.shiftLeft A (Nat.mul 10 o) = A * 2 ^ (10 * o) := Nat.shiftLeft_eq A (10 * o)
  rw [e]
  unfold sl
  by_cases h : o ≤ i
  · rw [if_pos h, show 10 * i = 10 * o + 10 * (i - o) by omega, Nat.pow_add, ← Nat.div_div_eq_div_mul, Nat.mul_div_cancel _ (Nat.two_pow_pos _)]
  · rw [if_neg h, show 10 * o = 10 * i + (10 * (o - i - 1) + 10) by omega, Nat.pow_add, Nat.mul_comm (2 ^ (10 * i)), ← Nat.mul_assoc, Nat.mul_div_cancel _ (Nat.two_pow_pos _), Nat.pow_add, ← Nat.mul_assoc]
    exact Nat.mul_mod_left _ _
theorem sl_low {A B : Nat} (h : ∀ i, sl A i + sl B i < 1024) : ∀ i, A % 2 ^ (10 * i) + B % 2 ^ (10 * i) < 2 ^ (10 * i)
  | 0 => by simp; omega
  | i + 1 => by
    have ih := sl_low h i
    have e := h i
    unfold sl at e
    rw [show 10 * (i + 1) = 10 * i + 10 by omega, Nat.pow_add, Nat.mod_mul, Nat.mod_mul, show 2 ^ 10 = 1024 from rfl]
    generalize 2 ^ (10 * i) = m at *
    have h1 : m * (A / m % 1024) + m * (B / m % 1024) ≤ m * 1023 := by
      rw [← Nat.mul_add]
      exact Nat.mul_le_mul_left m (by omega)
    omega
theorem sl_add {A B : Nat} (h : ∀ i, sl A i + sl B i < 1024) (i : Nat) : sl (Nat.add A B) i = sl A i + sl B i := by
  have e := h i
  have l := sl_low h i
  show sl (A + B) i = _
  unfold sl at *
  have hm := Nat.two_pow_pos (10 * i)
  generalize 2 ^ (10 * i) = m at *
  have h1 : (A + B) / m = A / m + B / m := by
    have a1 := Nat.div_add_mod A m
    have a2 := Nat.div_add_mod B m
    have : A + B = m * (A / m + B / m) + (A % m + B % m) := by rw [Nat.mul_add]; omega
    rw [this, Nat.mul_add_div hm, Nat.div_eq_of_lt l]
    rfl
  rw [h1, Nat.add_mod, Nat.mod_eq_of_lt e]
theorem sl_and {A B i : Nat} : sl (Nat.land A B) i = sl A i &&& sl B i := by
  show sl (A &&& B) i = _
  unfold sl
  rw [Nat.and_div_two_pow, show 1024 = 2 ^ 10 from rfl, Nat.and_mod_two_pow]
/-- the sets of so many places -/
def tPM : Nat → Nat → Nat
  | 0, k => if k = 0 then 1023 else 0
  | n + 1, 0 => tPM n 0
  | n + 1, k + 1 => Nat.add (tPM n (k + 1)) (Nat.shiftLeft (tPM n k) (Nat.mul 10 (Nat.pow 2 n)))
def tC (m : Nat) : Nat → Nat
  | 0 => m
  | n + 1 => Nat.add (tC m n) (Nat.shiftLeft (tC m n) (Nat.mul 10 (Nat.pow 2 n)))
theorem sl_0 {m i : Nat} (h : m < 1024) : sl m i = if i = 0 then m else 0 := by
  unfold sl
  by_cases z : i = 0
  · rw [if_pos z, z, Nat.mul_zero, Nat.pow_zero, Nat.div_one, Nat.mod_eq_of_lt h]
  · rw [if_neg z, Nat.div_eq_of_lt]
    refine Nat.lt_of_lt_of_le h ?_
    show 2 ^ 10 ≤ 2 ^ (10 * i)
    exact Nat.pow_le_pow_right (by decide) (by omega)
theorem sl_C {m : Nat} (hm : m < 1024) : ∀ n i, sl (tC m n) i = if i < 2 ^ n then m else 0
  | 0, i => by
    rw [tC, sl_0 hm, Nat.pow_zero]
    by_cases z : i = 0
    · rw [if_pos z, if_pos (by omega)]
    · rw [if_neg z, if_neg (by omega)]
  | n + 1, i => by
    have hs : ∀ i, sl (Nat.shiftLeft (tC m n) (Nat.mul 10 (Nat.pow 2 n))) i = if 2 ^ n ≤ i ∧ i < 2 ^ n + 2 ^ n then m else 0 := fun i => by
      rw [sl_shift]
      show (if 2 ^ n ≤ i then sl (tC m n) (i - 2 ^ n) else 0) = _
      by_cases z : 2 ^ n ≤ i
      · rw [if_pos z, sl_C hm n]
        by_cases y : i - 2 ^ n < 2 ^ n
        · rw [if_pos y, if_pos (by omega)]
        · rw [if_neg y, if_neg (by omega)]
      · rw [if_neg z, if_neg (by omega)]
    rw [tC, sl_add (fun i => by
      rw [hs, sl_C hm n]
      by_cases z : i < 2 ^ n
      · rw [if_pos z, if_neg (by omega)]; omega
      · rw [if_neg z]; split <;> omega), hs, sl_C hm n, Nat.pow_succ]
    by_cases z : i < 2 ^ n
    · rw [if_pos z, if_neg (by omega), if_pos (by omega)]; rfl
    · rw [if_neg z]
      by_cases y : i < 2 ^ n + 2 ^ n
      · rw [if_pos (by omega), if_pos (by omega)]; omega
      · rw [if_neg (by omega), if_neg (by omega)]
def ctB (n i : Nat) : Nat := fb_ct (fun j => i.testBit j) n
theorem ctB_lo {n i : Nat} (h : i < 2 ^ n) : ctB (n + 1) i = ctB n i := by
  unfold ctB
  rw [fb_ct_succ, Nat.testBit_lt_two_pow h]
  rfl
theorem ctB_hi {n i : Nat} (h : i < 2 ^ n) : ctB (n + 1) (2 ^ n + i) = ctB n i + 1 := by
  unfold ctB
  rw [fb_ct_succ, Nat.testBit_two_pow_add_eq, Nat.testBit_lt_two_pow h]
  have : fb_ct (fun j => (2 ^ n + i).testBit j) n = fb_ct (fun j => i.testBit j) n := fb_ct_cong fun k hk => Nat.testBit_two_pow_add_gt hk i
  rw [this]
  rfl
theorem sl_PM : ∀ n k i, sl (tPM n k) i = if i < 2 ^ n ∧ ctB n i = k then 1023 else 0
  | 0, k, i => by
    rw [tPM, Nat.pow_zero]
    by_cases z : k = 0
    · rw [if_pos z, sl_0 (by decide), z]
      by_cases y : i = 0
      · rw [if_pos y, if_pos ⟨by omega, rfl⟩]
      · rw [if_neg y, if_neg (by omega)]
    · rw [if_neg z, sl_0 (by decide), if_neg (c := i < 1 ∧ ctB 0 i = k) (fun y => z (by rw [← y.2]; rfl))]
      split <;> rfl
  | n + 1, 0, i => by
    rw [tPM, sl_PM n 0 i, Nat.pow_succ]
    by_cases z : i < 2 ^ n
    · rw [ctB_lo z]
      by_cases y : ctB n i = 0
      · rw [if_pos ⟨z, y⟩, if_pos ⟨by omega, y⟩]
      · rw [if_neg (fun w => y w.2), if_neg (fun w => y w.2)]
    · rw [if_neg (fun w => z w.1)]
      by_cases y : i < 2 ^ n * 2
      · have := ctB_hi (n := n) (i := i - 2 ^ n) (by omega)
        rw [show 2 ^ n + (i - 2 ^ n) = i by omega] at this
        rw [if_neg (fun w => by omega)]
      · rw [if_neg (fun w => y w.1)]
  | n + 1, k + 1, i => by
    have hs : ∀ i, sl (Nat.shiftLeft (tPM n k) (Nat.mul 10 (Nat.pow 2 n))) i = if 2 ^ n ≤ i ∧ (i - 2 ^ n < 2 ^ n ∧ ctB n (i - 2 ^ n) = k) then 1023 else 0 := fun i => by
      rw [sl_shift]
      show (if 2 ^ n ≤ i then sl (tPM n k) (i - 2 ^ n) else 0) = _
      by_cases z : 2 ^ n ≤ i
      · rw [if_pos z, sl_PM n k]
        by_cases y : i - 2 ^ n < 2 ^ n ∧ ctB n (i - 2 ^ n) = k
        · rw [if_pos y, if_pos ⟨z, y⟩]
        · rw [if_neg y, if_neg (fun w => y w.2)]
      · rw [if_neg z, if_neg (fun w => z w.1)]
    rw [tPM, sl_add (fun i => by
      rw [hs, sl_PM n]
      by_cases z : i < 2 ^ n
      · rw [if_neg (c := 2 ^ n ≤ i ∧ _) (fun w => by omega)]
        split <;> omega
      · rw [if_neg (c := i < 2 ^ n ∧ _) (fun w => z w.1)]
        split <;> omega), hs, sl_PM n, Nat.pow_succ]
    by_cases z : i < 2 ^ n
    · rw [if_neg (c := 2 ^ n ≤ i ∧ _) (fun w => by omega), ctB_lo z, Nat.add_zero]
      by_cases y : ctB n i = k + 1
      · rw [if_pos ⟨z, y⟩, if_pos ⟨by omega, y⟩]
      · rw [if_neg (fun w => y w.2), if_neg (fun w => y w.2)]
    · rw [if_neg (c := i < 2 ^ n ∧ _) (fun w => z w.1), Nat.zero_add]
      by_cases y : i < 2 ^ n * 2
      · have := ctB_hi (n := n) (i := i - 2 ^ n) (by omega)
        rw [show 2 ^ n + (i - 2 ^ n) = i by omega] at this
        rw [this]
        by_cases v : ctB n (i - 2 ^ n) = k
        · rw [if_pos ⟨by omega, by omega, v⟩, if_pos ⟨y, by omega⟩]
        · rw [if_neg (fun w => v w.2.2), if_neg (fun w => v (by omega))]
      · rw [if_neg (fun w => by omega), if_neg (fun w => y w.1)]
