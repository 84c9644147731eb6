/-! all sets of up to seven distances, table by table; nine by looking up -/
def tSum (A D : Nat) : Nat → Nat
  | 0 => 0
  | p + 1 => Nat.add (tSum A D p) (Nat.shiftLeft A (Nat.mul 10 (Nat.add (Nat.pow 2 p) (Nat.pow 2 (Nat.add p D)))))
def tExt (A D k : Nat) : Nat := Nat.land (tSum A D (Nat.sub 18 D)) (tPM 18 (Nat.mul 2 k))
def tM : Nat → Nat
  | 0 => 1
  | 1 => 1
  | 2 => 1
  | 3 => 3
  | 4 => 7
  | 5 => 15
  | 6 => 63
  | _ => 255
def tOk (B k : Nat) : Bool := Nat.beq (Nat.land B (tC (Nat.sub 1023 (tM k)) 18)) 0
def lk2 (A m D : Nat) : Nat → Nat
  | 0 => 0
  | p + 1 => Nat.add (lk2 A m D p) (cond (Nat.beq (Nat.land m (Nat.add (Nat.pow 2 p) (Nat.pow 2 (Nat.add p D)))) 0) (Nat.land (Nat.shiftRight A (Nat.mul 10 (Nat.sub 262143 (Nat.add m (Nat.add (Nat.pow 2 p) (Nat.pow 2 (Nat.add p D))))))) 1023) 0)
def lk1 (A D1 D2 : Nat) : Nat → Nat
  | 0 => 0
  | p + 1 => Nat.add (lk1 A D1 D2 p) (lk2 A (Nat.add (Nat.pow 2 p) (Nat.pow 2 (Nat.add p D1))) D2 (Nat.sub 18 D2))
def eig : Nat → Nat → Nat → Bool
  | 0, _, _ => true
  | f + 1, A, D2 => and (Nat.ble (lk1 A (Nat.sub 15 f) D2 (Nat.sub 18 (Nat.sub 15 f))) 2656) (eig f A D2)
def nin : Nat → Nat → Bool
  | 0, _ => true
  | f + 1, A => and (eig f A (Nat.sub 15 f)) (nin f A)
def dfs : Nat → Nat → Nat → Nat → Bool
  | 0, _, _, _ => true
  | f + 1, 0, A, _ => nin (f + 1) A
  | f + 1, r + 1, A, k => and (and (and (Nat.ble (Nat.mul (Nat.sub 18 (Nat.sub 15 f)) (tM k)) 1023) (tOk (tExt A (Nat.sub 15 f) (Nat.add k 1)) (Nat.add k 1))) (dfs f r (tExt A (Nat.sub 15 f) (Nat.add k 1)) (Nat.add k 1))) (dfs f (r + 1) A k)
theorem dfs_cons {f r A k : Nat} (h1 : Nat.ble (Nat.mul (Nat.sub 18 (Nat.sub 15 f)) (tM k)) 1023 = true) (h2 : tOk (tExt A (Nat.sub 15 f) (Nat.add k 1)) (Nat.add k 1) = true) (h3 : dfs f r (tExt A (Nat.sub 15 f) (Nat.add k 1)) (Nat.add k 1) = true) (h4 : dfs f (r + 1) A k = true) : dfs (f + 1) (r + 1) A k = true := by
  rw [dfs, h1, h2, h3, h4]
  rfl
theorem sl_sum {A D M : Nat} (hA : ∀ i, sl A i ≤ M) : ∀ n, n * M ≤ 1023 → ∀ i, sl (tSum A D n) i = sumK (fun p => if 2 ^ p + 2 ^ (p + D) ≤ i then sl A (i - (2 ^ p + 2 ^ (p + D))) else 0) n ∧ sl (tSum A D n) i ≤ n * M
  | 0, _, i => by
    rw [tSum, sumK]
    have : sl 0 i = 0 := by rw [sl_0 (by decide)]; split <;> rfl
    rw [this]
    exact ⟨rfl, by omega⟩
  | n + 1, h, i => by
    rw [Nat.add_mul, Nat.one_mul] at h
    have hs : ∀ i, sl (Nat.shiftLeft A (Nat.mul 10 (Nat.add (Nat.pow 2 n) (Nat.pow 2 (Nat.add n D))))) i = if 2 ^ n + 2 ^ (n + D) ≤ i then sl A (i - (2 ^ n + 2 ^ (n + D))) else 0 := fun i => sl_shift
    have hb : ∀ i, sl (Nat.shiftLeft A (Nat.mul 10 (Nat.add (Nat.pow 2 n) (Nat.pow 2 (Nat.add n D))))) i ≤ M := fun i => by
      rw [hs]
      split
      · exact hA _
      · omega
    have ih := fun i => sl_sum (D := D) hA n (by omega) i
    have ha := sl_add (A := tSum A D n) (B := Nat.shiftLeft A (Nat.mul 10 (Nat.add (Nat.pow 2 n) (Nat.pow 2 (Nat.add n D))))) (fun i => by
      have := (ih i).2
      have := hb i
      omega) i
    rw [tSum, sumK, ha, (ih i).1, hs]
    refine ⟨rfl, ?_⟩
    rw [← (ih i).1, ← hs, Nat.add_mul, Nat.one_mul]
    have := (ih i).2
    have := hb i
    omega
theorem tM_ok : ∀ k, k < 8 → ∀ v, v < 1024 → v &&& (1023 - tM k) = 0 → v ≤ tM k := by decide +kernel
theorem tM_255 : ∀ k, k < 8 → tM k ≤ 255 := by decide
theorem and_1023 : ∀ v, v < 1024 → v &&& 1023 = v := by decide +kernel
/-- what a table says -/
def Tab (A k u : Nat) : Prop := (∀ i, sl A i ≤ tM k) ∧ ∀ S, S < 2 ^ 18 → pc S = 2 * k → cN S u ≤ sl A S
theorem pcB (S : Nat) : ctB 18 S = pc S := (pc_ct S).symm
theorem rm2 {S p D : Nat} (h1 : S.testBit p = true) (h2 : S.testBit (p + D + 1) = true) : msk (msk S (2 ^ p)) (2 ^ (p + D + 1)) + (2 ^ p + 2 ^ (p + (D + 1))) = S := by
  have a := msk_add p S h1
  have b := msk_add (p + D + 1) (msk S (2 ^ p)) (by rw [msk1, h2]; simp; omega)
  rw [show p + (D + 1) = p + D + 1 by omega]
  omega
theorem rm2_pc {S p D k : Nat} (hp : p + D + 1 < 18) (h1 : S.testBit p = true) (h2 : S.testBit (p + D + 1) = true) (h : pc S = k + 2) : pc (msk (msk S (2 ^ p)) (2 ^ (p + D + 1))) = k := by
  have a := pc_msk (A := S) (a := p) (by omega) h1
  have b := pc_msk (A := msk S (2 ^ p)) (a := p + D + 1) hp (by rw [msk1, h2]; simp; omega)
  generalize pc S = x at *
  generalize pc (msk S (2 ^ p)) = y at *
  generalize pc (msk (msk S (2 ^ p)) (2 ^ (p + D + 1))) = z at *
  omega
theorem tExt_ok {A k u i : Nat} (hT : Tab A k u) (hi : i < 15) (hk : k + 1 < 8) (hu : u.testBit i = false) (hM : (17 - i) * tM k ≤ 1023) (hok : tOk (tExt A (i + 1) (k + 1)) (k + 1) = true) : Tab (tExt A (i + 1) (k + 1)) (k + 1) (u ||| 2 ^ i) := by
  have hs := fun S => sl_sum (D := i + 1) hT.1 (17 - i) hM S
  have h18 : Nat.sub 18 (i + 1) = 17 - i := by show 18 - (i + 1) = 17 - i; omega
  have hsl : ∀ S, sl (tExt A (i + 1) (k + 1)) S = if S < 2 ^ 18 ∧ pc S = 2 * (k + 1) then sl (tSum A (i + 1) (17 - i)) S else 0 := fun S => by
    unfold tExt
    rw [h18, sl_and, sl_PM, pcB]
    show (_ &&& if S < 2 ^ 18 ∧ pc S = 2 * (k + 1) then 1023 else 0) = _
    split
    · exact and_1023 _ sl_lt
    · exact Nat.and_zero _
  refine ⟨fun S => ?_, fun S hS hpc => ?_⟩
  · by_cases z : S < 2 ^ 18
    · have h0 := Nat.eq_of_beq_eq_true hok
      have h1 : sl (Nat.land (tExt A (i + 1) (k + 1)) (tC (Nat.sub 1023 (tM (k + 1))) 18)) S = 0 := by
        rw [h0, sl_0 (by decide)]
        split <;> rfl
      rw [sl_and, sl_C (by show 1023 - tM (k + 1) < 1024; omega), if_pos z] at h1
      exact tM_ok (k + 1) hk _ sl_lt h1
    · rw [hsl, if_neg (fun y => z y.1)]
      exact Nat.zero_le _
  · rw [hsl, if_pos ⟨hS, hpc⟩, (hs S).1]
    have hun : msk (u ||| 2 ^ i) (2 ^ i) = u := Nat.eq_of_testBit_eq fun j => by
      rw [msk1, fb_bit_set]
      by_cases z : j = i
      · rw [z, hu]; simp
      · simp [z]
    have he := cN_exch (D := i) (un := u ||| 2 ^ i) hi (by rw [fb_bit_set]; simp) hS
    rw [hun] at he
    refine Nat.le_trans he (sumK_le _ fun p hp => ?_)
    split
    · rename_i hb
      have r := rm2 hb.1 hb.2
      have rp := rm2_pc (k := 2 * k) (by omega) hb.1 hb.2 (by rw [hpc]; omega)
      have hlt : msk (msk S (2 ^ p)) (2 ^ (p + i + 1)) < 2 ^ 18 := msk_lt (msk_lt hS)
      have hle : 2 ^ p + 2 ^ (p + (i + 1)) ≤ S := by omega
      have hsub : S - (2 ^ p + 2 ^ (p + (i + 1))) = msk (msk S (2 ^ p)) (2 ^ (p + i + 1)) := by omega
      show _ ≤ if 2 ^ p + 2 ^ (p + (i + 1)) ≤ S then sl A (S - (2 ^ p + 2 ^ (p + (i + 1)))) else 0
      rw [if_pos hle, hsub]
      exact hT.2 _ hlt rp
    · exact Nat.zero_le _
/-! nine -/
theorem lk2_sum {A m D : Nat} : ∀ n, lk2 A m D n = sumK (fun p => if m &&& (2 ^ p + 2 ^ (p + D)) = 0 then sl A (262143 - (m + (2 ^ p + 2 ^ (p + D)))) else 0) n
  | 0 => rfl
  | n + 1 => by
    rw [lk2, sumK, lk2_sum n]
    show _ + (cond (Nat.beq (m &&& (2 ^ n + 2 ^ (n + D))) 0) ((A >>> (10 * (262143 - (m + (2 ^ n + 2 ^ (n + D)))))) &&& 1023) 0) = _
    congr 1
    by_cases z : m &&& (2 ^ n + 2 ^ (n + D)) = 0
    · rw [if_pos z, z]
      show (A >>> (10 * (262143 - (m + (2 ^ n + 2 ^ (n + D)))))) &&& 1023 = _
      unfold sl
      rw [Nat.shiftRight_eq_div_pow, show 1023 = 2 ^ 10 - 1 from rfl, Nat.and_two_pow_sub_one_eq_mod]
    · have : Nat.beq (m &&& (2 ^ n + 2 ^ (n + D))) 0 = false := by
        cases q : Nat.beq (m &&& (2 ^ n + 2 ^ (n + D))) 0 with
        | false => rfl
        | true => exact absurd (Nat.eq_of_beq_eq_true q) z
      rw [if_neg z, this]
      rfl
theorem lk1_sum {A D1 D2 : Nat} : ∀ n, lk1 A D1 D2 n = sumK (fun p => lk2 A (2 ^ p + 2 ^ (p + D1)) D2 (18 - D2)) n
  | 0 => rfl
  | n + 1 => by
    rw [lk1, sumK, lk1_sum n]
    rfl
theorem full_bit {k : Nat} (h : k < 18) : (262143).testBit k = true := by
  rw [show 262143 = 2 ^ 18 - 1 from rfl, Nat.testBit_two_pow_sub_one]
  simpa using h
theorem two_bit {p D j : Nat} : (2 ^ p + 2 ^ (p + D + 1)).testBit j = (decide (j = p) || decide (j = p + D + 1)) := by
  have hlt : 2 ^ p < 2 ^ (p + D + 1) := Nat.pow_lt_pow_right (by decide) (by omega)
  have : 2 ^ p + 2 ^ (p + D + 1) = 2 ^ (p + D + 1) * 1 ||| 2 ^ p := by
    rw [← Nat.two_pow_add_eq_or_of_lt hlt]
    omega
  rw [this, Nat.mul_one, Nat.testBit_or, Nat.testBit_two_pow, Nat.testBit_two_pow]
  have e1 : decide (p = j) = decide (j = p) := decide_eq_decide.mpr eq_comm
  have e2 : decide (p + D + 1 = j) = decide (j = p + D + 1) := decide_eq_decide.mpr eq_comm
  rw [e1, e2, Bool.or_comm]
theorem nine_ok {A u i1 i2 : Nat} (hT : Tab A 7 u) (h1 : i1 < 15) (h2 : i2 < 15) (hne : i2 ≠ i1) (hu1 : u.testBit i1 = false) (hu2 : u.testBit i2 = false) : cN 262143 ((u ||| 2 ^ i2) ||| 2 ^ i1) ≤ lk1 A (i1 + 1) (i2 + 1) (17 - i1) := by
  have hun : msk ((u ||| 2 ^ i2) ||| 2 ^ i1) (2 ^ i1) = u ||| 2 ^ i2 := Nat.eq_of_testBit_eq fun j => by
    rw [msk1, fb_bit_set]
    by_cases z : j = i1
    · rw [z, fb_bit_set, hu1]; simp; exact fun y => hne y.symm
    · simp [z]
  have hun2 : msk (u ||| 2 ^ i2) (2 ^ i2) = u := Nat.eq_of_testBit_eq fun j => by
    rw [msk1, fb_bit_set]
    by_cases z : j = i2
    · rw [z, hu2]; simp
    · simp [z]
  have he := cN_exch (D := i1) (fr := 262143) (un := (u ||| 2 ^ i2) ||| 2 ^ i1) h1 (by rw [fb_bit_set]; simp) (by decide)
  rw [hun] at he
  refine Nat.le_trans he ?_
  rw [lk1_sum]
  refine sumK_le _ fun p hp => ?_
  split
  · rename_i hb
    have hS : msk (msk 262143 (2 ^ p)) (2 ^ (p + i1 + 1)) < 2 ^ 18 := msk_lt (msk_lt (by decide))
    have r := rm2 hb.1 hb.2
    have rp : pc (msk (msk 262143 (2 ^ p)) (2 ^ (p + i1 + 1))) = 16 := rm2_pc (by omega) hb.1 hb.2 (by decide)
    have hb2 : ∀ j, (msk (msk 262143 (2 ^ p)) (2 ^ (p + i1 + 1))).testBit j = true → j ≠ p ∧ j ≠ p + i1 + 1 := fun j hj => by
      rw [msk1, msk1] at hj
      simp only [Bool.and_eq_true, decide_eq_true_eq] at hj
      exact ⟨hj.1.2, hj.2⟩
    have he2 := cN_exch (D := i2) (un := u ||| 2 ^ i2) h2 (by rw [fb_bit_set]; simp) hS
    rw [hun2] at he2
    refine Nat.le_trans he2 ?_
    rw [lk2_sum, show 18 - (i2 + 1) = 17 - i2 by omega]
    refine sumK_le _ fun q hq => ?_
    generalize msk (msk 262143 (2 ^ p)) (2 ^ (p + i1 + 1)) = S at *
    split
    · rename_i hc
      have r2 := rm2 hc.1 hc.2
      have rp2 := rm2_pc (k := 2 * 7) (by omega) hc.1 hc.2 rp
      have a1 := hb2 _ hc.1
      have a2 := hb2 _ hc.2
      have hand : (2 ^ p + 2 ^ (p + (i1 + 1))) &&& (2 ^ q + 2 ^ (q + (i2 + 1))) = 0 := Nat.eq_of_testBit_eq fun j => by
        rw [Nat.zero_testBit, Nat.testBit_and, show p + (i1 + 1) = p + i1 + 1 by omega, show q + (i2 + 1) = q + i2 + 1 by omega, two_bit, two_bit]
        by_cases y1 : j = q
        · subst y1
          simp [a1.1, a1.2]
        · by_cases y2 : j = q + i2 + 1
          · subst y2
            simp [a2.1, a2.2]
            have := a2.2
            omega
          · simp [y1, y2]
      show _ ≤ if (2 ^ p + 2 ^ (p + (i1 + 1))) &&& (2 ^ q + 2 ^ (q + (i2 + 1))) = 0 then sl A (262143 - ((2 ^ p + 2 ^ (p + (i1 + 1))) + (2 ^ q + 2 ^ (q + (i2 + 1))))) else 0
      rw [if_pos hand]
      have hsub : 262143 - ((2 ^ p + 2 ^ (p + (i1 + 1))) + (2 ^ q + 2 ^ (q + (i2 + 1)))) = msk (msk S (2 ^ q)) (2 ^ (q + i2 + 1)) := by omega
      rw [hsub]
      exact hT.2 _ (msk_lt (msk_lt hS)) rp2
    · exact Nat.zero_le _
  · exact Nat.zero_le _
theorem eig_ok {A D2 i1 : Nat} : ∀ f, f ≤ 15 → eig f A D2 = true → 15 - f ≤ i1 → i1 < 15 → lk1 A (i1 + 1) D2 (17 - i1) ≤ 2656
  | 0, _, _, h1, h2 => by omega
  | f + 1, hf, h, h1, h2 => by
    rw [eig, Bool.and_eq_true] at h
    by_cases z : i1 = 14 - f
    · have := Nat.le_of_ble_eq_true h.1
      rw [show Nat.sub 15 f = i1 + 1 by show 15 - f = i1 + 1; omega, show Nat.sub 18 (i1 + 1) = 17 - i1 by show 18 - (i1 + 1) = 17 - i1; omega] at this
      exact this
    · exact eig_ok f (by omega) h.2 (by omega) h2
theorem nin_ok {A i1 i2 : Nat} : ∀ f, f ≤ 15 → nin f A = true → 15 - f ≤ i2 → i2 < i1 → i1 < 15 → lk1 A (i1 + 1) (i2 + 1) (17 - i1) ≤ 2656
  | 0, _, _, h1, h2, h3 => by omega
  | f + 1, hf, h, h1, h2, h3 => by
    rw [nin, Bool.and_eq_true] at h
    by_cases z : i2 = 14 - f
    · have := eig_ok (i1 := i1) f (by omega) h.1 (by omega) h3
      rw [show Nat.sub 15 f = i2 + 1 by show 15 - f = i2 + 1; omega] at this
      exact this
    · exact nin_ok f (by omega) h.2 (by omega) h2 h3
/-- the bits of a set of distances, lowest first -/
theorem low_split {v m : Nat} (h : ∀ i, v.testBit i = true → m ≤ i ∧ i < 15) (hm : v.testBit m = true) : v = msk v (2 ^ m) ||| 2 ^ m ∧ pc (msk v (2 ^ m)) + 1 = pc v ∧ ∀ i, (msk v (2 ^ m)).testBit i = true → m + 1 ≤ i ∧ i < 15 := by
  refine ⟨Nat.eq_of_testBit_eq fun j => ?_, pc_msk (by have := h m hm; omega) hm, fun i hi => ?_⟩
  · rw [fb_bit_set, msk1]
    by_cases z : j = m
    · rw [z, hm]; simp
    · simp [z]
  · rw [msk1] at hi
    simp only [Bool.and_eq_true, decide_eq_true_eq] at hi
    have := h i hi.1
    omega
theorem no_bits {v : Nat} (h : ∀ i, v.testBit i = true → 15 ≤ i ∧ i < 15) : v = 0 := Nat.eq_of_testBit_eq fun j => by
  rw [Nat.zero_testBit]
  cases q : v.testBit j with
  | false => rfl
  | true => have := h j q; omega
theorem bits18 {v m : Nat} (h : ∀ i, v.testBit i = true → m ≤ i ∧ i < 15) : v < 2 ^ 18 := by
  have : v < 2 ^ 15 := by
    refine Nat.lt_of_not_le fun z => ?_
    obtain ⟨i, h1, h2⟩ := Nat.exists_ge_and_testBit_of_ge_two_pow z
    have := h i h2
    omega
  omega
theorem dfs_ok : ∀ (f r A k u : Nat), f ≤ 15 → k + r = 7 → dfs f r A k = true → Tab A k u → (∀ i, u.testBit i = true → i < 15 - f) → ∀ v, (∀ i, v.testBit i = true → 15 - f ≤ i ∧ i < 15) →
    (pc v ≤ r → ∀ S, S < 2 ^ 18 → pc S = 2 * (k + pc v) → cN S (u ||| v) ≤ 255) ∧ (pc v = r + 2 → cN 262143 (u ||| v) ≤ 2656) := by
  intro f
  induction f with
  | zero =>
    intro r A k u hf hk h hT hu v hv
    obtain rfl : v = 0 := no_bits (fun i hi => by have := hv i hi; omega)
    have p0 : pc 0 = 0 := pcN_0 18
    rw [p0, Nat.or_zero, Nat.add_zero]
    exact ⟨fun _ S hS hp => Nat.le_trans (hT.2 S hS hp) (Nat.le_trans (hT.1 S) (tM_255 k (by omega))), fun z => by omega⟩
  | succ f ih =>
    intro r A k u hf hk h hT hu v hv
    have hu0 : u.testBit (14 - f) = false := by
      cases q : u.testBit (14 - f) with
      | false => rfl
      | true => have := hu _ q; omega
    cases r with
    | zero =>
      obtain rfl : k = 7 := by omega
      refine ⟨fun z S hS hp => ?_, fun z => ?_⟩
      · have hv0 : v = 0 := pc_0 (bits18 hv) (by omega)
        have p0 : pc 0 = 0 := pcN_0 18
        rw [hv0, p0] at hp
        rw [hv0, Nat.or_zero]
        exact Nat.le_trans (hT.2 S hS hp) (Nat.le_trans (hT.1 S) (tM_255 7 (by omega)))
      · have hn : nin (f + 1) A = true := h
        have hpos : 0 < fb_ct (fun i => v.testBit i) 18 := by rw [← pc_ct]; omega
        obtain ⟨m, hm1, hm2, hm3⟩ := fb_first (p := fun i => v.testBit i = true) (fb_ct_pos.mp hpos)
        have hv1 : ∀ i, v.testBit i = true → m ≤ i ∧ i < 15 := fun i hi => ⟨Nat.le_of_not_lt fun y => hm3 i y hi, (hv i hi).2⟩
        obtain ⟨s1, s2, s3⟩ := low_split hv1 hm2
        have hpos2 : 0 < fb_ct (fun i => (msk v (2 ^ m)).testBit i) 18 := by
          rw [← pc_ct]
          generalize pc (msk v (2 ^ m)) = a at *
          generalize pc v = b at *
          omega
        obtain ⟨m2, hn1, hn2, hn3⟩ := fb_first (p := fun i => (msk v (2 ^ m)).testBit i = true) (fb_ct_pos.mp hpos2)
        have hv2 : ∀ i, (msk v (2 ^ m)).testBit i = true → m2 ≤ i ∧ i < 15 := fun i hi => ⟨Nat.le_of_not_lt fun y => hn3 i y hi, (s3 i hi).2⟩
        obtain ⟨t1, t2, t3⟩ := low_split hv2 hn2
        have hz : msk (msk v (2 ^ m)) (2 ^ m2) = 0 := pc_0 (bits18 t3) (by
          generalize pc (msk (msk v (2 ^ m)) (2 ^ m2)) = c at *
          generalize pc (msk v (2 ^ m)) = a at *
          generalize pc v = b at *
          omega)
        rw [hz, Nat.zero_or] at t1
        have hm2m := s3 m2 hn2
        have hmv := hv m hm2
        have huv : u ||| v = (u ||| 2 ^ m) ||| 2 ^ m2 := by
          rw [s1, t1, Nat.or_comm (2 ^ m2), Nat.or_assoc]
        have nou : ∀ i, 15 - (f + 1) ≤ i → u.testBit i = false := fun i hi => by
          cases q : u.testBit i with
          | false => rfl
          | true => have := hu i q; omega
        rw [huv]
        exact Nat.le_trans (nine_ok hT (by omega) (by omega) (by omega) (nou _ (by omega)) (nou _ (by omega))) (nin_ok (f + 1) hf hn (by omega) (by omega) (by omega))
    | succ r =>
      rw [dfs, Bool.and_eq_true, Bool.and_eq_true, Bool.and_eq_true] at h
      obtain ⟨⟨⟨h1, h2⟩, h3⟩, h4⟩ := h
      by_cases hb : v.testBit (14 - f) = true
      · have e15 : Nat.sub 15 f = 14 - f + 1 := by show 15 - f = 14 - f + 1; omega
        rw [e15] at h1 h2 h3
        have h1 := Nat.le_of_ble_eq_true h1
        rw [show Nat.sub 18 (14 - f + 1) = 17 - (14 - f) by show 18 - (14 - f + 1) = 17 - (14 - f); omega] at h1
        have hT2 := tExt_ok (i := 14 - f) hT (by omega) (by omega) hu0 h1 h2
        obtain ⟨s1, s2, s3⟩ := low_split (m := 14 - f) (fun i hi => by have := hv i hi; omega) hb
        have := ih r _ (k + 1) (u ||| 2 ^ (14 - f)) (by omega) (by omega) h3 hT2 (fun i hi => by
          rw [fb_bit_set] at hi
          simp only [Bool.or_eq_true, decide_eq_true_eq] at hi
          rcases hi with z | z
          · have := hu i z; omega
          · omega) (msk v (2 ^ (14 - f))) (fun i hi => by have := s3 i hi; omega)
        have huv : u ||| v = (u ||| 2 ^ (14 - f)) ||| msk v (2 ^ (14 - f)) := by
          rw [Nat.or_assoc, Nat.or_comm (2 ^ (14 - f)), ← s1]
        rw [huv]
        generalize pc (msk v (2 ^ (14 - f))) = a at *
        generalize pc v = b at *
        exact ⟨fun z S hS hp => this.1 (by omega) S hS (by omega), fun z => this.2 (by omega)⟩
      · exact ih (r + 1) A k u (by omega) hk h4 hT (fun i hi => by have := hu i hi; omega) v (fun i hi => by
          have := hv i hi
          have : i ≠ 14 - f := fun z => hb (by rw [← z]; exact hi)
          omega)
theorem tab_0 : Tab 1 0 0 := by
  refine ⟨fun i => ?_, fun S hS hp => ?_⟩
  · rw [sl_0 (by decide)]
    split <;> decide
  · obtain rfl : S = 0 := pc_0 hS hp
    decide
/-- if the search says so, no frame has more -/
theorem bnd_of (h : dfs 15 7 1 0 = true) : BND := by
  intro c ho pa f hw hev
  have hps := pc_start hw hev
  have hfr := frO_lt hw
  have hun := unO_lt hw
  rw [cN_c hw.1 hfr]
  have hS : frO c ho f < 2 ^ 18 := Nat.lt_of_lt_of_le hfr (Nat.pow_le_pow_right (by decide) hw.1)
  generalize frO c ho f = S at *
  generalize unO pa f = v at *
  have hv : ∀ i, v.testBit i = true → 15 - 15 ≤ i ∧ i < 15 := fun i hi => ⟨by omega, by
    by_cases z : i < 15
    · exact z
    · rw [Nat.testBit_lt_two_pow (Nat.lt_of_lt_of_le hun (Nat.pow_le_pow_right (by decide) (by omega)))] at hi; cases hi⟩
  have key : ∀ v, (∀ i, v.testBit i = true → 15 - 15 ≤ i ∧ i < 15) → (pc v ≤ 7 → ∀ S, S < 2 ^ 18 → pc S = 2 * pc v → cN S v ≤ 255) ∧ (pc v = 9 → cN 262143 v ≤ 2656) := fun v hv => by
    have := dfs_ok 15 7 1 0 0 (by omega) (by omega) h tab_0 (fun i hi => by rw [Nat.zero_testBit] at hi; cases hi) v hv
    rw [Nat.zero_or, Nat.zero_add] at this
    exact this
  have hk := key v hv
  rcases (show pc v ≤ 7 ∨ pc v = 8 ∨ pc v = 9 by have := hps.2; generalize pc v = b at *; omega) with z | z | z
  · exact Nat.le_trans (hk.1 z S hS hps.1) (by decide)
  · have hpos : 0 < fb_ct (fun i => v.testBit i) 18 := by rw [← pc_ct, z]; decide
    obtain ⟨m, m1, m2, m3⟩ := fb_last (p := fun i => v.testBit i = true) (fb_ct_pos.mp hpos)
    have hm15 := (hv m m2).2
    have hm7 : 7 ≤ m := by
      have h1 : pc v ≤ m + 1 := by
        rw [pc_ct, show 18 = (m + 1) + (17 - m) by omega, fb_ct_split]
        have h2 : fb_ct (fun k => v.testBit (m + 1 + k)) (17 - m) = 0 := fb_ct_zero.mpr fun k hk => by
          cases q : v.testBit (m + 1 + k) with
          | false => rfl
          | true => exact absurd q (m3 (m + 1 + k) (by omega) (by omega))
        rw [h2]
        exact fb_ct_le _ _
      rw [z] at h1
      omega
    have hpm := pc_msk (A := v) (a := m) (by omega) m2
    have hvm : ∀ i, (msk v (2 ^ m)).testBit i = true → 15 - 15 ≤ i ∧ i < 15 := fun i hi => by
      rw [msk1] at hi
      simp only [Bool.and_eq_true] at hi
      exact hv i hi.1
    have h7 : pc (msk v (2 ^ m)) = 7 := by
      rw [z] at hpm
      generalize pc (msk v (2 ^ m)) = a at *
      omega
    have k7 := (key (msk v (2 ^ m)) hvm).1 (by rw [h7]; decide)
    rw [h7] at k7
    refine Nat.le_trans (cN_exch hm15 m2 hS) (Nat.le_trans (sumK_le (h := fun _ => 255) _ fun p hp => ?_) ?_)
    · split
      · rename_i hb
        exact k7 _ (msk_lt (msk_lt hS)) (rm2_pc (by omega) hb.1 hb.2 (by rw [hps.1, z]))
      · exact Nat.zero_le _
    · have : ∀ n, sumK (fun _ => 255) n = n * 255 := fun n => by
        induction n with
        | zero => rfl
        | succ n ih => rw [sumK, ih]; omega
      rw [this]
      omega
  · have hp18 : pc S = 18 := by rw [hps.1, z]
    have hfull : S = 262143 := Nat.eq_of_testBit_eq fun j => by
      rw [pc_ct] at hp18
      have := fb_ct_all.mp hp18
      by_cases y : j < 18
      · rw [this j y, full_bit y]
      · rw [Nat.testBit_lt_two_pow (Nat.lt_of_lt_of_le hS (Nat.pow_le_pow_right (by decide) (by omega))), Nat.testBit_lt_two_pow (show 262143 < 2 ^ j from Nat.lt_of_lt_of_le (by decide : 262143 < 2 ^ 18) (Nat.pow_le_pow_right (by decide) (by omega)))]
    rw [hfull]
    exact hk.2 z
