/-! the model counts one filling -/
theorem s2_u1n {I : Nat → Nat → Int32} {a b k : Nat} {X : Nat → Int32} {v : Int32} (h : a ≠ b) : s2 (u1 I b X) a k v = u1 (s2 I a k v) b X := by
  funext e
  unfold s2
  by_cases h1 : e = a
  · subst h1
    rw [u1_e, u1_n h, u1_n h, u1_e]
  · rw [u1_n h1]
    by_cases h2 : e = b
    · subst h2; rw [u1_e, u1_e]
    · rw [u1_n h2, u1_n h2, u1_n h1]
def cs1 (b : Bool) (k : Nat) (t : Nat → Nat) (I : Nat → Nat → Int32) : Nat → Nat → Int32 := if b = true then s2 I 75 k (nI (t k)) else I
def cs2 (c k : Nat) (t : Nat → Nat) (I : Nat → Nat → Int32) : Nat → Nat → Int32 := if 0 < t k ∧ k + t k < c ∧ t (k + t k) = t k then s2 I 77 (20 * t k + k) (I 77 (20 * t k + k) + 1) else I
def cst (b : Bool) (c : Nat) (t : Nat → Nat) : Nat → (Nat → Nat → Int32) → Nat → Nat → Int32
  | 0, I => I
  | k + 1, I => cs2 c k t (cs1 b k t (cst b c t k I))
theorem cs1_n {b : Bool} {k a : Nat} {t : Nat → Nat} {I : Nat → Nat → Int32} (h : a ≠ 75) : cs1 b k t I a = I a := by
  unfold cs1
  split
  · unfold s2; rw [u1_n h]
  · rfl
theorem cs2_n {c k a : Nat} {t : Nat → Nat} {I : Nat → Nat → Int32} (h : a ≠ 77) : cs2 c k t I a = I a := by
  unfold cs2
  split
  · unfold s2; rw [u1_n h]
  · rfl
theorem cst_n {b : Bool} {c a : Nat} {t : Nat → Nat} {I : Nat → Nat → Int32} (h : a ≠ 75) (h2 : a ≠ 77) : ∀ k, cst b c t k I a = I a
  | 0 => rfl
  | k + 1 => by rw [cst, cs2_n h2, cs1_n h, cst_n h h2 k]
def stp (c : Nat) (t : Nat → Nat) (s : (Nat → Nat → Int32) × (Nat → Nat → Int32)) : (Nat → Nat → Int32) × (Nat → Nat → Int32) :=
  (s2 (if ∀ k, k < c → nI (t k) = s.2 76 k then s2 s.1 64 26 (s.1 64 24) else s.1) 64 24 (s.1 64 24 + 1), cst (decide (s.1 64 24 = s.1 64 25)) c t c s.2)
/-- the model's frame: now, or the other -/
def aM (a : Nat) : Prop := a = 66 ∨ a = 72
theorem aM.s {a : Nat} (h : aM a) : shp[a]? = some (0, 19) := by rcases h with rfl | rfl <;> rfl
section MCO
variable {n : Nat} {w : Int64} {L : Nat → Nat → Int64} {Q : Nat → Nat → Option Nat} {D : Nat → Bool} {a c : Nat}
theorem k_74 {x I : Nat → Nat → Int32} {C : Nat → Int32} {j : Nat} (hj : j < 18) : aI (MM n x w (u1 I 74 C) L Q D) 0 74 (nI j) = some (C j) := by
  rw [a_at (len := 18) rfl (Or.inl rfl) hj (by decide), u1_e]
theorem k_n {x I : Nat → Nat → Int32} {C : Nat → Int32} {e len j : Nat} (h : e ≠ 74) (hs : shp[e]? = some (0, len)) (hj : j < len) (hl : len < 2 ^ 31) : aI (MM n x w (u1 I 74 C) L Q D) 0 e (nI j) = some (I e j) := by
  rw [a_at hs (Or.inl rfl) hj hl, u1_n h]
theorem k_set {x I : Nat → Nat → Int32} {C : Nat → Int32} {e len j : Nat} {v : Int32} (h : e ≠ 74) (hs : shp[e]? = some (0, len)) (hj : j < len) (hl : len < 2 ^ 31) : sI (MM n x w (u1 I 74 C) L Q D) 0 e (nI j) v = some (MM n x w (u1 (s2 I e j v) 74 C) L Q D) := by
  rw [a_set hs (Or.inl rfl) hj hl, s2_u1n h]
theorem k_s74 {x I : Nat → Nat → Int32} {C : Nat → Int32} {j : Nat} {v : Int32} (hj : j < 18) : sI (MM n x w (u1 I 74 C) L Q D) 0 74 (nI j) v = some (MM n x w (u1 I 74 (upd C j v)) L Q D) := by
  rw [a_set (len := 18) rfl (Or.inl rfl) hj (by decide), s2_u1]
def tl9 (n v0 v1 : Nat) (s v3 : Int32) (h : Hp) : Option Hp := (gR h v0 7 20).bind fun x42 => (aI h 0 x42 v3).bind fun x43 => if x43 ≤ 0 then (f_X7_counts_4 n v0 v1 s (v3 + (1)) h) else ((aI h 0 v1 (0 : Int32)).bind fun x44 => if x44 ≤ (v3 + x43) then (f_X7_counts_4 n v0 v1 s (v3 + (1)) h) else ((gR h v0 7 20).bind fun x45 => (aI h 0 x45 (v3 + x43)).bind fun x46 => if x46 = x43 then ((gR h v0 7 23).bind fun x47 => (aI h 0 x47 (((20 : Int32) * x43) + v3)).bind fun x48 => (sI h 0 x47 (((20 : Int32) * x43) + v3) (x48 + (1 : Int32))).bind fun h49 => f_X7_counts_4 n v0 v1 s (v3 + (1)) h49) else (f_X7_counts_4 n v0 v1 s (v3 + (1)) h)))
theorem tl9_e {x I : Nat → Nat → Int32} {C : Nat → Int32} {t : Nat → Nat} {fu k : Nat} {s : Int32} (ha : aM a) (hc : c ≤ 18) (hI : I a 0 = nI c) (hC : ∀ j, j < c → C j = nI (t j)) (ht : ∀ j, j < c → t j ≤ 15) (hk : k < c) :
    tl9 fu 64 a s (nI k) (MM n x w (u1 I 74 C) L Q D) = f_X7_counts_4 fu 64 a s (nI (k + 1)) (MM n x w (u1 (cs2 c k t I) 74 C) L Q D) := by
  have h74 : a ≠ 74 := by rcases ha with rfl | rfl <;> decide
  have htk := ht k hk
  unfold tl9
  rw [r_64_20, ob_s, k_74 (by omega), ob_s, hC k hk]
  by_cases h0 : t k = 0
  · rw [if_pos (by rw [h0]; decide), nI_1]
    unfold cs2
    rw [if_neg (by omega)]
  · rw [if_neg (nI_nle (by omega) (by omega)), li0, k_n h74 ha.s (by decide) (by decide), ob_s, hI, nI_add]
    by_cases h1 : k + t k < c
    · rw [if_neg (nI_ge h1 (by omega)), ob_s, k_74 (by omega), ob_s, hC _ h1]
      have h2 := ht _ h1
      by_cases h3 : t (k + t k) = t k
      · rw [if_pos (by rw [h3]), r_64_23, ob_s, li20, pk_mul, nI_add, k_n (len := 320) (by decide) rfl (by omega) (by decide), ob_s, k_set (len := 320) (by decide) rfl (by omega) (by decide), ob_s, nI_1]
        unfold cs2
        rw [if_pos ⟨by omega, h1, h3⟩]
      · rw [if_neg (fun z => h3 ((nI_eq (by omega) (by omega)).mp z)), nI_1]
        unfold cs2
        rw [if_neg (fun z => h3 z.2.2)]
    · rw [if_pos (nI_le (by omega) (by omega)), nI_1]
      unfold cs2
      rw [if_neg (fun z => h1 z.2.1)]
theorem counts_step {x I : Nat → Nat → Int32} {C : Nat → Int32} {t : Nat → Nat} {fu k : Nat} {s : Bool} (ha : aM a) (hc : c ≤ 18) (hI : I a 0 = nI c) (hC : ∀ j, j < c → C j = nI (t j)) (ht : ∀ j, j < c → t j ≤ 15) (hk : k < c) :
    f_X7_counts_4 (fu + 1) 64 a (bI s) (nI k) (MM n x w (u1 I 74 C) L Q D) = f_X7_counts_4 fu 64 a (bI (s && decide (nI (t k) = I 76 k))) (nI (k + 1)) (MM n x w (u1 (cs2 c k t (cs1 (decide (x 64 24 = x 64 25)) k t I)) 74 C) L Q D) := by
  have h74 : a ≠ 74 := by rcases ha with rfl | rfl <;> decide
  have h75 : a ≠ 75 := by rcases ha with rfl | rfl <;> decide
  have e0 : ∀ J : Nat → Nat → Int32, aI (MM n x w (u1 J 74 C) L Q D) 0 a 0 = some (J a 0) := fun J => k_n (j := 0) h74 ha.s (by decide) (by decide)
  rw [f_X7_counts_4, e0, ob_s, hI, if_neg (nI_ge hk (by omega)), g_64_24, ob_s, g_64_25, ob_s]
  have fin : ∀ (J : Nat → Nat → Int32) (s9 : Int32), J a 0 = nI c → tl9 fu 64 a s9 (nI k) (MM n x w (u1 J 74 C) L Q D) = f_X7_counts_4 fu 64 a s9 (nI (k + 1)) (MM n x w (u1 (cs2 c k t J) 74 C) L Q D) := fun J s9 hJ => tl9_e ha hc hJ hC ht hk
  by_cases hw : x 64 24 = x 64 25
  · have hJ : cs1 true k t I a 0 = nI c := by rw [cs1_n h75, hI]
    rw [if_pos hw, r_64_21, ob_s, r_64_20, ob_s, k_74 (by omega), ob_s, hC k hk, k_set (len := 18) (by decide) rfl (by omega) (by decide), ob_s, decide_eq_true hw]
    have e1 : s2 I 75 k (nI (t k)) = cs1 true k t I := (if_pos rfl).symm
    rw [e1]
    cases s with
    | false => rw [if_pos (by decide)]; exact fin _ _ hJ
    | true =>
      rw [if_neg (by decide), r_64_20, ob_s, k_74 (by omega), ob_s, r_64_22, ob_s, k_n (len := 18) (by decide) rfl (by omega) (by decide), ob_s, hC k hk, cs1_n (by decide)]
      by_cases hm : nI (t k) = I 76 k
      · rw [if_pos hm, decide_eq_true hm]; exact fin _ _ hJ
      · rw [if_neg hm, decide_eq_false hm]; exact fin _ _ hJ
  · rw [if_neg hw, decide_eq_false hw]
    have e1 : I = cs1 false k t I := (if_neg (by decide)).symm
    rw [← e1]
    have f0 := fin I 0 hI
    have f1 := fin I 1 hI
    unfold tl9 at f0 f1
    rw [e0, hI] at f0 f1
    cases s with
    | false => rw [if_pos (by decide)]; exact f0
    | true =>
      rw [r_64_20] at f0 f1
      rw [if_neg (by decide), r_64_20, ob_s, k_74 (by omega), ob_s, r_64_22, ob_s, k_n (len := 18) (by decide) rfl (by omega) (by decide), ob_s, hC k hk]
      by_cases hm : nI (t k) = I 76 k
      · rw [if_pos hm, decide_eq_true hm]; exact f1
      · rw [if_neg hm, decide_eq_false hm]; exact f0
theorem m_counts_l {x I : Nat → Nat → Int32} {C : Nat → Int32} {t : Nat → Nat} (ha : aM a) (hc : c ≤ 18) (hI : I a 0 = nI c) (hC : ∀ j, j < c → C j = nI (t j)) (ht : ∀ j, j < c → t j ≤ 15) : ∀ (j k fu : Nat), k + j = c → j < fu →
    f_X7_counts_4 fu 64 a (bI (decide (∀ i, i < k → nI (t i) = I 76 i))) (nI k) (MM n x w (u1 (cst (decide (x 64 24 = x 64 25)) c t k I) 74 C) L Q D) = some (MM n (stp c t (x, I)).1 w (u1 (stp c t (x, I)).2 74 C) L Q D)
  | 0, k, fu, hk, hf => by
    obtain ⟨fu, rfl⟩ : ∃ n9, fu = n9 + 1 := ⟨fu - 1, by omega⟩
    obtain rfl : k = c := by omega
    have h74 : a ≠ 74 := by rcases ha with rfl | rfl <;> decide
    have h75 : a ≠ 75 := by rcases ha with rfl | rfl <;> decide
    have h77 : a ≠ 77 := by rcases ha with rfl | rfl <;> decide
    rw [f_X7_counts_4, show (0 : Int32) = nI 0 from rfl, k_n h74 ha.s (by decide) (by decide), ob_s, cst_n h75 h77, hI, if_pos (Int32.le_refl _)]
    unfold stp
    by_cases hm : ∀ i, i < k → nI (t i) = I 76 i
    · rw [decide_eq_true hm, if_neg (by decide), g_64_24, ob_s, p_64_26, ob_s, g_64_24, ob_s, p_64_24, ob_s, if_pos hm]
      simp only [s2_at]
      rfl
    · rw [decide_eq_false hm, if_pos (by decide), g_64_24, ob_s, p_64_24, ob_s, if_neg hm]
  | j + 1, k, fu, hk, hf => by
    obtain ⟨fu, rfl⟩ : ∃ n9, fu = n9 + 1 := ⟨fu - 1, by omega⟩
    have h75 : a ≠ 75 := by rcases ha with rfl | rfl <;> decide
    have h77 : a ≠ 77 := by rcases ha with rfl | rfl <;> decide
    rw [counts_step ha hc (by rw [cst_n h75 h77, hI]) hC ht (by omega), cst_n (by decide) (by decide)]
    have e : (decide (∀ i, i < k → nI (t i) = I 76 i) && decide (nI (t k) = I 76 k)) = decide (∀ i, i < k + 1 → nI (t i) = I 76 i) := by
      rw [Bool.eq_iff_iff]
      simp only [Bool.and_eq_true, decide_eq_true_eq]
      constructor
      · rintro ⟨h1, h2⟩ i hi
        by_cases z : i = k
        · rw [z]; exact h2
        · exact h1 i (by omega)
      · exact fun h => ⟨fun i hi => h i (by omega), h k (by omega)⟩
    rw [e]
    exact m_counts_l ha hc hI hC ht j (k + 1) fu (by omega) (by omega)
theorem m_counts {x I : Nat → Nat → Int32} {C : Nat → Int32} {t : Nat → Nat} (ha : aM a) (hc : c ≤ 18) (hI : I a 0 = nI c) (hC : ∀ j, j < c → C j = nI (t j)) (ht : ∀ j, j < c → t j ≤ 15) : f_X7_counts (MM n x w (u1 I 74 C) L Q D) 64 a = some (MM n (stp c t (x, I)).1 w (u1 (stp c t (x, I)).2 74 C) L Q D) := by
  have := m_counts_l (n := n) (w := w) (L := L) (Q := Q) (D := D) (x := x) (C := C) ha hc hI hC ht c 0 4096 (by omega) (by omega)
  rw [decide_eq_true (fun i hi => absurd hi (Nat.not_lt_zero i))] at this
  exact this
end MCO
