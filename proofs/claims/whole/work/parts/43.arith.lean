/-! numbers: bits, counts of bits -/
theorem sh1 : ∀ l, l < 31 → (1 : Int32) <<< (nI l &&& 31) = nI (2 ^ l) := by decide +kernel
theorem bitN {h : Hp} {p : Nat} (h1 : 1 ≤ p) (h2 : p ≤ 31) : f_X6_bit h (nI p) = some (nI (2 ^ (p - 1))) := by
  unfold f_X6_bit
  rw [show (1 : Int32) = nI 1 from rfl, pk_sub h1, show nI 1 = (1 : Int32) from rfl, sh1 _ (by omega)]
theorem and31 : ∀ l, l < 32 → ((nI l &&& 31).toBitVec.smod 32).toNat = l := by decide +kernel
theorem hasN {h : Hp} {m j : Nat} (hm : m < 2 ^ 31) (hj : j < 32) : f_X7_has h (nI m) (nI j) = some (if m.testBit j then 1 else 0) := by
  unfold f_X7_has
  rw [pk_shrN hm _ j (and31 j hj), pk_andN (Nat.lt_of_le_of_lt (Nat.div_le_self _ _) (by omega)) 1 (by decide), Nat.testBit_eq_decide_div_mod_eq]
  have h2 : m / 2 ^ j % 2 < 2 := Nat.mod_lt _ (by decide)
  by_cases e : m / 2 ^ j % 2 = 1
  · simp [e]; rfl
  · have e0 : m / 2 ^ j % 2 = 0 := by omega
    simp [e0]
    decide
/-- how many bits -/
def pcN : Nat → Nat → Nat
  | 0, _ => 0
  | f + 1, m => m % 2 + pcN f (m / 2)
def pc (m : Nat) : Nat := pcN 18 m
theorem pcN_0 : ∀ f, pcN f 0 = 0
  | 0 => rfl
  | f + 1 => by rw [pcN, Nat.zero_div, pcN_0 f]
theorem pcN_le : ∀ f m, pcN f m ≤ f
  | 0, _ => Nat.le_refl _
  | f + 1, m => by have := pcN_le f (m / 2); rw [pcN]; omega
theorem pcN_pos : ∀ f m, m < 2 ^ f → 0 < m → 0 < pcN f m
  | 0, m, h, h0 => by simp at h; omega
  | f + 1, m, h, h0 => by
    rw [pcN]
    by_cases e : m / 2 = 0
    · omega
    · have := pcN_pos f (m / 2) (by rw [Nat.pow_succ] at h; omega) (by omega)
      omega
theorem pcN_drop : ∀ f m, m < 2 ^ f → 0 < m → pcN f (m &&& (m - 1)) + 1 = pcN f m
  | 0, m, h, h0 => by simp at h; omega
  | f + 1, m, h, h0 => by
    rw [pcN, pcN, Nat.and_div_two]
    have hm2 : (m &&& (m - 1)) % 2 = 0 := by
      have := Nat.and_mod_two_pow (a := m) (b := m - 1) (n := 1)
      rw [Nat.pow_one] at this
      rw [this]
      rcases (show m % 2 = 0 ∨ m % 2 = 1 by omega) with e | e
      · rw [e]; simp
      · rw [e, show (m - 1) % 2 = 0 by omega]; simp
    rw [hm2]
    rcases (show m % 2 = 0 ∨ m % 2 = 1 by omega) with e | e
    · rw [show (m - 1) / 2 = m / 2 - 1 by omega, e]
      have := pcN_drop f (m / 2) (by rw [Nat.pow_succ] at h; omega) (by omega)
      omega
    · rw [show (m - 1) / 2 = m / 2 by omega, Nat.and_self, e]
      omega
theorem bitsL {h : Hp} (f : Nat) : ∀ (k n m v : Nat), pcN f m = k → m < 2 ^ f → m < 2 ^ 31 → k < n → f_X7_bits_4 n (nI v) (nI m) h = some (nI (v + k)) := by
  intro k
  induction k with
  | zero =>
    intro n m v hk hm hm2 hn
    obtain ⟨n, rfl⟩ : ∃ n9, n = n9 + 1 := ⟨n - 1, by omega⟩
    have : m = 0 := by
      rcases Nat.eq_zero_or_pos m with e | e
      · exact e
      · have := pcN_pos f m hm e; omega
    subst this
    rw [f_X7_bits_4, if_pos (show nI 0 = 0 from rfl)]
    rfl
  | succ k ih =>
    intro n m v hk hm hm2 hn
    obtain ⟨n, rfl⟩ : ∃ n9, n = n9 + 1 := ⟨n - 1, by omega⟩
    have h0 : 0 < m := by
      rcases Nat.eq_zero_or_pos m with e | e
      · subst e; rw [pcN_0] at hk; omega
      · exact e
    have hd := pcN_drop f m hm h0
    have hle : m &&& (m - 1) ≤ m := Nat.and_le_left
    rw [f_X7_bits_4, if_neg (nI_ne0 h0 hm2), show (1 : Int32) = nI 1 from rfl, pk_sub h0, fa_and, nI_add, ih n (m &&& (m - 1)) (v + 1) (by omega) (by omega) (by omega) (by omega)]
    congr 2
    omega
theorem bitsN {h : Hp} {m : Nat} (hm : m < 2 ^ 18) : f_X7_bits h (nI m) = some (nI (pc m)) := by
  unfold f_X7_bits
  rw [show (0 : Int32) = nI 0 from rfl, bitsL 18 (pcN 18 m) 4096 m 0 rfl hm (by omega) (by have := pcN_le 18 m; omega), Nat.zero_add]
  rfl
/-! bytes under a mask -/
theorem andB (r y c M : Nat) (hr : r < 256) (hc : c < 256) : (r + 256 * y) &&& (c + 256 * M) = (r &&& c) + 256 * (y &&& M) := by
  have h1 : ((r + 256 * y) &&& (c + 256 * M)) / 256 = y &&& M := by
    have := Nat.and_div_two_pow (a := r + 256 * y) (b := c + 256 * M) (n := 8)
    rw [show (2 : Nat) ^ 8 = 256 from rfl] at this
    rw [this, show (r + 256 * y) / 256 = y by omega, show (c + 256 * M) / 256 = M by omega]
  have h2 : ((r + 256 * y) &&& (c + 256 * M)) % 256 = r &&& c := by
    have := Nat.and_mod_two_pow (a := r + 256 * y) (b := c + 256 * M) (n := 8)
    rw [show (2 : Nat) ^ 8 = 256 from rfl] at this
    rw [this, show (r + 256 * y) % 256 = r by omega, show (c + 256 * M) % 256 = c by omega]
  omega
def b1 (a : Nat) : Nat := a - ((a / 2) &&& 85)
def b2 (a : Nat) : Nat := (a &&& 51) + ((a / 4) &&& 51)
theorem k1 : ∀ a, a < 256 → ∀ t, t < 2 → ((a / 2 + 128 * t) &&& 85) = (a / 2) &&& 85 := by decide +kernel
theorem k1l : ∀ a, a < 256 → (a / 2) &&& 85 ≤ a := by decide +kernel
theorem k1b : ∀ a, a < 256 → b1 a < 256 := by decide +kernel
theorem k2 : ∀ a, a < 256 → ∀ t, t < 4 → ((a / 4 + 64 * t) &&& 51) = (a / 4) &&& 51 := by decide +kernel
theorem k2b : ∀ a, a < 256 → b2 (b1 a) < 256 ∧ b2 (b1 a) % 16 ≤ 4 ∧ b2 (b1 a) / 16 ≤ 4 ∧ b2 (b1 a) % 16 + b2 (b1 a) / 16 = pcN 8 a := by decide +kernel
theorem k3 : ∀ u, u < 9 → ∀ v, v < 9 → ((u + 16 * v) &&& 15) = u := by decide +kernel
theorem k4 : ∀ c, c < 4 → b1 c < 4 ∧ b2 (b1 c) = pcN 8 c ∧ (c / 2 &&& 21845) = (c / 2 &&& 85) ∧ (b1 c &&& 13107) = (b1 c &&& 51) ∧ (b1 c / 4 &&& 13107) = 0 ∧ (b1 c / 4 &&& 51) = 0 ∧ pcN 8 c < 3 := by decide +kernel
theorem ushN {m k : Nat} (hm : m < 2 ^ 31) (hk : k < 31) : ushr (nI m) (nI k) = nI (m / 2 ^ k) := by
  unfold ushr
  exact pk_ushrN (by omega) _ k ((by decide +kernel : ∀ k, k < 31 → (((nI k).toUInt32 &&& Int32.toUInt32 31).toBitVec % 32).toNat = k) k hk)
theorem pcN_split : ∀ (f g m : Nat), pcN (f + g) m = pcN f m + pcN g (m / 2 ^ f)
  | 0, g, m => by rw [Nat.zero_add, Nat.pow_zero, Nat.div_one, pcN, Nat.zero_add]
  | f + 1, g, m => by
    rw [show f + 1 + g = (f + g) + 1 by omega, pcN, pcN, pcN_split f g, Nat.div_div_eq_div_mul, show 2 * 2 ^ f = 2 ^ (f + 1) by rw [Nat.pow_succ]; omega]
    omega
theorem pcN_mod : ∀ (f m : Nat), pcN f (m % 2 ^ f) = pcN f m
  | 0, m => rfl
  | f + 1, m => by
    rw [pcN, pcN, Nat.mod_mod_of_dvd _ (by rw [Nat.pow_succ]; exact Nat.dvd_mul_left _ _)]
    rw [show m % 2 ^ (f + 1) / 2 = m / 2 % 2 ^ f by
      rw [show 2 ^ (f + 1) = 2 * 2 ^ f by rw [Nat.pow_succ]; omega, Nat.mod_mul_right_div_self]]
    rw [pcN_mod f]
theorem fin3 {u v t : Nat} (hu : u ≤ 8) (hv : v ≤ 8) (ht : t < 3) : (u + 256 * (v + 256 * t) + (u + 256 * (v + 256 * t)) / 256 + (u + 256 * (v + 256 * t) + (u + 256 * (v + 256 * t)) / 256) / 65536) % 64 = u + v + t := by
  have h1 : (u + 256 * (v + 256 * t)) / 256 = v + 256 * t := by omega
  rw [h1]
  have h2 : (u + 256 * (v + 256 * t) + (v + 256 * t)) / 65536 = t := by omega
  rw [h2]
  omega
set_option maxRecDepth 4000 in
theorem bcN {h : Hp} {m : Nat} (hm : m < 2 ^ 18) : f_J6_bitCount_0f7a4 h (nI m) = some (nI (pc m)) := by
  obtain ⟨a, b, c, ha, hb, hc, e⟩ : ∃ a b c, a < 256 ∧ b < 256 ∧ c < 4 ∧ m = a + 256 * (b + 256 * c) := ⟨m % 256, m / 256 % 256, m / 65536, by omega, by omega, by omega, by omega⟩
  have hpc : pc m = pcN 8 a + pcN 8 b + pcN 8 c := by
    unfold pc
    rw [show 18 = 8 + (8 + 2) from rfl, pcN_split 8, pcN_split 8, ← pcN_mod 8 m, show m % 2 ^ 8 = a by omega, show m / 2 ^ 8 = b + 256 * c by omega, ← pcN_mod 8 (b + 256 * c), show (b + 256 * c) % 2 ^ 8 = b by omega, show (b + 256 * c) / 2 ^ 8 = c by omega]
    have : ∀ c, c < 4 → pcN 2 c = pcN 8 c := by decide
    rw [this c hc]
    omega
  obtain ⟨c1, c2, c3, c4, c5, c6, c7⟩ := k4 c hc
  have la := k1l a ha
  have lb := k1l b hb
  have lc := k1l c (by omega)
  -- the first step
  have e1 : (m / 2) &&& 1431655765 = ((a / 2) &&& 85) + 256 * (((b / 2) &&& 85) + 256 * ((c / 2) &&& 85)) := by
    rw [show m / 2 = (a / 2 + 128 * (b % 2)) + 256 * ((b / 2 + 128 * (c % 2)) + 256 * (c / 2)) by omega, show (1431655765 : Nat) = 85 + 256 * (85 + 256 * 21845) from rfl, andB _ _ _ _ (by omega) (by omega), andB _ _ _ _ (by omega) (by omega), k1 a ha _ (by omega), k1 b hb _ (by omega), c3]
  have f1 : m - ((m / 2) &&& 1431655765) = b1 a + 256 * (b1 b + 256 * b1 c) := by
    rw [e1]
    unfold b1
    omega
  have h1a := k1b a ha
  have h1b := k1b b hb
  have s1 : (nI m - (ushr (nI m) 1 &&& 1431655765)) = nI (b1 a + 256 * (b1 b + 256 * b1 c)) := by
    rw [show (1 : Int32) = nI 1 from rfl, ushN (by omega) (by decide), show (1431655765 : Int32) = nI 1431655765 from rfl, fa_and, Nat.pow_one, pk_sub (by rw [e1]; omega), f1]
  generalize hA : b1 a = A at *
  generalize hB : b1 b = B at *
  generalize hCC : b1 c = C at *
  have e2 : (A + 256 * (B + 256 * C)) &&& 858993459 = (A &&& 51) + 256 * ((B &&& 51) + 256 * (C &&& 51)) := by
    rw [show (858993459 : Nat) = 51 + 256 * (51 + 256 * 13107) from rfl, andB _ _ _ _ h1a (by omega), andB _ _ _ _ h1b (by omega), c4]
  have e3 : ((A + 256 * (B + 256 * C)) / 4) &&& 858993459 = ((A / 4) &&& 51) + 256 * (((B / 4) &&& 51) + 256 * ((C / 4) &&& 51)) := by
    rw [show (A + 256 * (B + 256 * C)) / 4 = (A / 4 + 64 * (B % 4)) + 256 * ((B / 4 + 64 * (C % 4)) + 256 * (C / 4)) by omega, show (858993459 : Nat) = 51 + 256 * (51 + 256 * 13107) from rfl, andB _ _ _ _ (by omega) (by omega), andB _ _ _ _ (by omega) (by omega), k2 A h1a _ (by omega), k2 B h1b _ (by omega), c5, c6]
  obtain ⟨a1, a2, a3, a4⟩ := k2b a ha
  obtain ⟨d1, d2, d3, d4⟩ := k2b b hb
  rw [hA] at a1 a2 a3 a4
  rw [hB] at d1 d2 d3 d4
  have s2 : (nI (A + 256 * (B + 256 * C)) &&& 858993459) + (ushr (nI (A + 256 * (B + 256 * C))) 2 &&& 858993459) = nI (b2 A + 256 * (b2 B + 256 * b2 C)) := by
    rw [show (2 : Int32) = nI 2 from rfl, ushN (by omega) (by decide), show (858993459 : Int32) = nI 858993459 from rfl, fa_and, fa_and, nI_add, show (2 : Nat) ^ 2 = 4 from rfl, e2, e3]
    congr 1
    unfold b2
    omega
  rw [c2] at s2
  have hC3 : pcN 8 c < 3 := c7
  generalize hP : b2 A = P at *
  generalize hQ : b2 B = R at *
  generalize hS : pcN 8 c = S at *
  have e4 : (P + 256 * (R + 256 * S) + (P + 256 * (R + 256 * S)) / 16) &&& 252645135 = (P % 16 + P / 16) + 256 * ((R % 16 + R / 16) + 256 * S) := by
    rw [show P + 256 * (R + 256 * S) + (P + 256 * (R + 256 * S)) / 16 = ((P % 16 + P / 16) + 16 * (P / 16 + R % 16)) + 256 * (((R % 16 + R / 16) + 16 * (R / 16 + S)) + 256 * S) by omega, show (252645135 : Nat) = 15 + 256 * (15 + 256 * 3855) from rfl, andB _ _ _ _ (by omega) (by omega), andB _ _ _ _ (by omega) (by omega), k3 _ (by omega) _ (by omega), k3 _ (by omega) _ (by omega)]
    have : ∀ S, S < 3 → S &&& 3855 = S := by decide
    rw [this S hC3]
  have s3 : (nI (P + 256 * (R + 256 * S)) + ushr (nI (P + 256 * (R + 256 * S))) 4) &&& 252645135 = nI (pcN 8 a + 256 * (pcN 8 b + 256 * S)) := by
    rw [show (4 : Int32) = nI 4 from rfl, ushN (by omega) (by decide), nI_add, show (252645135 : Int32) = nI 252645135 from rfl, fa_and, show (2 : Nat) ^ 4 = 16 from rfl, e4, a4, d4]
  have p8a := pcN_le 8 a
  have p8b := pcN_le 8 b
  unfold f_J6_bitCount_0f7a4
  rw [s1, s2, s3, show (8 : Int32) = nI 8 from rfl, ushN (by omega) (by decide), nI_add, show (16 : Int32) = nI 16 from rfl, ushN (by omega) (by decide), nI_add, show (63 : Int32) = nI (2 ^ 6 - 1) from rfl, fa_mask, hpc]
  exact congrArg (fun q => some (nI q)) (fin3 p8a p8b hC3)
/-- the bits one by one -/
theorem pcN_ct : ∀ (f m : Nat), pcN f m = fb_ct (fun i => m.testBit i) f
  | 0, m => rfl
  | f + 1, m => by
    rw [show f + 1 = 1 + f by omega, fb_ct_split, show 1 + f = f + 1 by omega, pcN, pcN_ct f (m / 2)]
    congr 1
    · rw [show (1 : Nat) = 0 + 1 from rfl, fb_ct_succ]
      rw [Nat.testBit_zero]
      by_cases e : m % 2 = 1
      · simp [e, fb_ct]
      · have : m % 2 = 0 := by omega
        simp [this, fb_ct]
    · apply fb_ct_cong
      intro k _
      rw [show 1 + k = k + 1 by omega, Nat.testBit_succ]
theorem pc_ct (m : Nat) : pc m = fb_ct (fun i => m.testBit i) 18 := pcN_ct 18 m
