/-! all fillings, place by place: free places and unused distances as masks (from 0 on) -/
def msk (A B : Nat) : Nat := A ^^^ (A &&& B)
theorem msk_bit {A B k : Nat} : (msk A B).testBit k = (A.testBit k && !B.testBit k) := by
  unfold msk
  rw [Nat.testBit_xor, Nat.testBit_and]
  cases A.testBit k <;> cases B.testBit k <;> rfl
theorem msk_lt {A B n : Nat} (h : A < 2 ^ n) : msk A B < 2 ^ n := Nat.xor_lt_two_pow h (Nat.lt_of_le_of_lt Nat.and_le_left h)
theorem msk1 {A a k : Nat} : (msk A (2 ^ a)).testBit k = (A.testBit k && decide (k ≠ a)) := by
  rw [msk_bit, Nat.testBit_two_pow]
  by_cases h : k = a
  · subst h; simp
  · have : ¬ a = k := fun e => h e.symm
    simp [h, this]
theorem msk_nI (A B : Nat) : nI A &&& (nI B ^^^ NO) = nI (msk A B) := nandN A B
def enu : Nat → Nat → Nat → Nat → List (List (Nat × Nat))
  | 0, _, _, un => if un = 0 then [[]] else []
  | j + 1, q, fr, un => if fr.testBit q = true then (List.range 15).flatMap (fun i => if un.testBit i = true ∧ fr.testBit (q + i + 1) = true then (enu j (q + 1) (msk (msk fr (2 ^ q)) (2 ^ (q + i + 1))) (msk un (2 ^ i))).map (fun e => (q, i) :: e) else []) else enu j (q + 1) fr un
/-- a distance that is too long for what is left: nothing -/
theorem enu_long {i : Nat} : ∀ (j q fr un : Nat), (∀ k, q + j ≤ k → fr.testBit k = false) → un.testBit i = true → q + j ≤ q + i + 1 → enu j q fr un = []
  | 0, q, fr, un, hs, hi, hl => by
    rw [enu, if_neg (fun e => by rw [e, Nat.zero_testBit] at hi; cases hi)]
  | j + 1, q, fr, un, hs, hi, hl => by
    rw [enu]
    split
    · refine List.flatMap_eq_nil_iff.mpr fun k hk => ?_
      split
      · rename_i h1 h2
        have hki : k ≠ i := fun e => by
          subst e
          rw [hs _ (by omega)] at h2
          cases h2.2
        rw [enu_long j (q + 1) _ _ (fun m hm => by rw [msk1, msk1, hs m (by omega)]; rfl) (by rw [msk1, hi]; simp; omega) (by omega)]
        rfl
      · rfl
    · exact enu_long j (q + 1) fr un (fun m hm => hs m (by omega)) hi (by omega)
/-- where no place is free, nothing is left to do -/
theorem enu_none : ∀ (j q fr un : Nat), (∀ k, q ≤ k → k < q + j → fr.testBit k = false) → enu j q fr un = if un = 0 then [[]] else []
  | 0, _, _, _, _ => by rw [enu]
  | j + 1, q, fr, un, h => by
    rw [enu, if_neg (by rw [h q (by omega) (by omega)]; decide)]
    exact enu_none j (q + 1) fr un (fun k h1 h2 => h k (by omega) (by omega))
/-- places that aren't free are passed over -/
theorem enu_skip : ∀ (t j q fr un : Nat), (∀ k, q ≤ k → k < q + t → fr.testBit k = false) → enu (t + j) q fr un = enu j (q + t) fr un
  | 0, j, q, fr, un, _ => by rw [Nat.zero_add, Nat.add_zero]
  | t + 1, j, q, fr, un, h => by
    rw [show t + 1 + j = (t + j) + 1 by omega, enu, if_neg (by rw [h q (by omega) (by omega)]; decide), enu_skip t j (q + 1) fr un (fun k h1 h2 => h k (by omega) (by omega)), show q + 1 + t = q + (t + 1) by omega]
/-- the lowest bit -/
def tz : Nat → Nat → Nat
  | 0, _ => 0
  | f + 1, m => if m % 2 = 1 then 0 else tz f (m / 2) + 1
theorem tz_spec : ∀ (f m : Nat), m < 2 ^ f → 0 < m → tz f m < f ∧ m.testBit (tz f m) = true ∧ ∀ k, k < tz f m → m.testBit k = false
  | 0, m, h, h0 => by simp at h; omega
  | f + 1, m, h, h0 => by
    rw [tz]
    by_cases e : m % 2 = 1
    · rw [if_pos e]
      refine ⟨by omega, ?_, fun k hk => absurd hk (Nat.not_lt_zero k)⟩
      rw [Nat.testBit_zero]
      simp [e]
    · rw [if_neg e]
      obtain ⟨h1, h2, h3⟩ := tz_spec f (m / 2) (by rw [Nat.pow_succ] at h; omega) (by omega)
      refine ⟨by omega, by rw [Nat.testBit_succ]; exact h2, fun k hk => ?_⟩
      cases k with
      | zero => rw [Nat.testBit_zero]; simp [e]
      | succ k => rw [Nat.testBit_succ]; exact h3 k (by omega)
def tzChk : Nat → Nat → Bool
  | 0, m => if m = 0 then true else Nat.beq (Nat.land m (Nat.sub 4294967296 m)) (Nat.pow 2 (tz 15 m))
  | k + 1, m => tzChk k m && tzChk k (Nat.add m (Nat.pow 2 k))
theorem tzChk_all : ∀ (k m : Nat), tzChk k m = true → ∀ t, t < 2 ^ k → tzChk 0 (m + t) = true
  | 0, m, h, t, ht => by
    have : t = 0 := by simp at ht; omega
    subst this
    exact h
  | k + 1, m, h, t, ht => by
    rw [tzChk, Bool.and_eq_true] at h
    by_cases e : t < 2 ^ k
    · exact tzChk_all k m h.1 t e
    · have := tzChk_all k (m + 2 ^ k) h.2 (t - 2 ^ k) (by rw [Nat.pow_succ] at ht; omega)
      rw [show m + 2 ^ k + (t - 2 ^ k) = m + t by omega] at this
      exact this
theorem tz_all : tzChk 15 0 = true := by decide +kernel
theorem neg_nI {m : Nat} (h : m < 2 ^ 32) : -nI m = nI (4294967296 - m) := by
  have e : nI m + nI (4294967296 - m) = 0 := by
    rw [nI_add, show m + (4294967296 - m) = 4294967296 by omega]
    decide
  have h2 := Int32.eq_sub_iff_add_eq.mpr (show nI (4294967296 - m) + nI m = 0 by rw [Int32.add_comm]; exact e)
  rw [h2, Int32.zero_sub]
theorem lowbit {m : Nat} (h : m < 2 ^ 15) (h0 : 0 < m) : nI m &&& (-nI m) = nI (2 ^ tz 15 m) := by
  rw [neg_nI (by omega), fa_and]
  have := tzChk_all 15 0 tz_all m h
  rw [Nat.zero_add, tzChk, if_neg (by omega)] at this
  exact congrArg nI (Nat.eq_of_beq_eq_true this)
theorem low_pc : ∀ i, i < 15 → pc (2 ^ i - 1) = i := by decide +kernel
/-- the first of the bits from one on -/
theorem flat_low {α : Type} {g : Nat → List α} {m i n : Nat} (hmi : m ≤ i) (hin : i < n) (h : ∀ k, m ≤ k → k < i → g k = []) : (List.range' m (n - m)).flatMap g = g i ++ (List.range' (i + 1) (n - (i + 1))).flatMap g := by
  obtain ⟨t, rfl⟩ : ∃ t, i = m + t := ⟨i - m, by omega⟩
  clear hmi
  induction t generalizing m with
  | zero =>
    rw [Nat.add_zero] at *
    rw [show n - m = (n - (m + 1)) + 1 by omega, List.range'_succ, List.flatMap_cons]
  | succ t ih =>
    rw [show n - m = (n - (m + 1)) + 1 by omega, List.range'_succ, List.flatMap_cons, h m (by omega) (by omega), List.nil_append, show m + (t + 1) = (m + 1) + t by omega]
    exact ih (m := m + 1) (by omega) (fun k h1 h2 => h k (by omega) (by omega))
theorem flat_none {α : Type} {g : Nat → List α} {m n : Nat} (h : ∀ k, m ≤ k → g k = []) : (List.range' m n).flatMap g = [] := by
  refine List.flatMap_eq_nil_iff.mpr fun k hk => h k ?_
  have := List.mem_range'_1.mp hk
  omega
theorem range_15 : List.range 15 = List.range' 0 (15 - 0) := by rw [List.range_eq_range']
/-! how many are free, unused -/
theorem ct_msk {A a n : Nat} (ha : a < n) (hb : A.testBit a = true) : fb_ct (fun k => (msk A (2 ^ a)).testBit k) n + 1 = fb_ct (fun k => A.testBit k) n := by
  have h := fb_ct_upd (fun k => A.testBit k) false ha
  have e : fb_ct (fun k => (msk A (2 ^ a)).testBit k) n = fb_ct (fun k => if k = a then false else A.testBit k) n := by
    apply fb_ct_cong
    intro k _
    rw [msk1]
    by_cases q : k = a
    · simp [q]
    · simp [q]
  rw [e]
  rw [hb, if_pos rfl, if_neg (by decide)] at h
  exact h
