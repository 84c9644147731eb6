/-! made: both -/
section MADE2
variable {n : Nat} {x : Nat → Nat → Int32} {w : Int64} {L : Nat → Nat → Int64} {Q : Nat → Nat → Option Nat} {D : Nat → Bool}
theorem okO_c {o : Nat} (h : okO o = true) : (o = 6 ∨ (8 ≤ o ∧ o ≤ 60)) ∧ o % 4 ≠ 3 := by
  unfold okO at h
  simp only [Bool.and_eq_true, Bool.or_eq_true, beq_iff_eq, decide_eq_true_eq, Bool.not_eq_true', beq_eq_false_iff_ne] at h
  exact h
theorem c_make {I : Nat → Nat → Int32} {o : Nat} (h : okO o = true) : ∃ I', f_X4_make (MM n x w I L Q D) 60 (nI o) = some (MM n (s2 x 60 2 (nI (plO o))) w I' L Q D) ∧ RepC I' (psO o) ∧ ∀ e, e ≠ 61 → e ≠ 62 → I' e = I e := by
  have ho := okO_c h
  have erem : nI o - nI o / (4 : Int32) * (4 : Int32) = nI (o % 4) := pk_rem (d := 4) (by omega) (by decide) (by decide)
  have ediv : nI o / (4 : Int32) = nI (o / 4) := pk_div (d := 4) (by omega) (by decide) (by decide)
  obtain ⟨I1, c1, c2, c3, c4⟩ := c_clear (n := n) (x := x) (w := w) (I := I) (L := L) (Q := Q) (D := D) (plO o) (plO_le (by omega))
  have hR : RepC I1 [] := ⟨fun k hk => by rw [c2 k hk]; rfl, fun d hd => by rw [c3 d hd]; rfl⟩
  have e2o : (2 : Int32) * nI o = nI (2 * o) := pk_mul 2 o
  unfold f_X4_make
  rw [erem, ediv, e2o]
  rcases (show o % 4 = 0 ∨ o % 4 = 1 ∨ o % 4 = 2 by omega) with z | z | z
  · have hp : plO o = 2 * o := by unfold plO; rw [if_neg (by omega)]
    have hps : psO o = mk0 (o / 4) := by unfold psO; rw [if_pos z]
    rw [z, if_neg (show ¬ nI 0 = 2 by decide), o_60, if_pos rfl]
    rw [hp] at c1 ⊢
    rw [c1, ob_s, if_pos (show nI 0 = 0 from rfl), o_60, if_pos rfl]
    obtain ⟨I2, d1, d2, d3⟩ := c_mk0 (n := n) (x := s2 x 60 2 (nI (2 * o))) (w := w) (L := L) (Q := Q) (D := D) (m := o / 4) (by rw [s2_e]; congr 1; omega) (by omega) (by omega) hR
    refine ⟨I2, ?_, by rw [hps]; exact d2, fun e k1 k2 => by rw [d3 e k1 k2, c4 e k1 k2]⟩
    rw [d1, ob_s]
  · have hp : plO o = 2 * o := by unfold plO; rw [if_neg (by omega)]
    have hps : psO o = mk1 (o / 4) := by unfold psO; rw [if_neg (by omega), if_pos z]
    rw [z, if_neg (show ¬ nI 1 = 2 by decide), o_60, if_pos rfl]
    rw [hp] at c1 ⊢
    rw [c1, ob_s, if_neg (show ¬ nI 1 = 0 by decide), if_pos (show nI 1 = 1 from rfl), o_60, if_pos rfl]
    obtain ⟨I2, d1, d2, d3⟩ := c_mk1 (n := n) (x := s2 x 60 2 (nI (2 * o))) (w := w) (L := L) (Q := Q) (D := D) (m := o / 4) (by rw [s2_e]; congr 1; omega) (by omega) (by omega) hR
    refine ⟨I2, ?_, by rw [hps]; exact d2, fun e k1 k2 => by rw [d3 e k1 k2, c4 e k1 k2]⟩
    rw [d1, ob_s]
  · have hp : plO o = 2 * o + 1 := by unfold plO; rw [if_pos z]
    have hps : psO o = mk2 (o / 4) := by unfold psO; rw [if_neg (by omega), if_neg (by omega)]
    rw [z, if_pos (show nI 2 = 2 from rfl), o_60, if_pos rfl, nI_1]
    rw [hp] at c1 ⊢
    rw [c1, ob_s, if_neg (show ¬ nI 2 = 0 by decide), if_neg (show ¬ nI 2 = 1 by decide), o_60, if_pos rfl]
    obtain ⟨I2, d1, d2, d3⟩ := c_mk2 (n := n) (x := s2 x 60 2 (nI (2 * o + 1))) (w := w) (L := L) (Q := Q) (D := D) (m := o / 4) (by rw [s2_e]; congr 1; omega) (by omega) (by omega) hR
    refine ⟨I2, ?_, by rw [hps]; exact d2, fun e k1 k2 => by rw [d3 e k1 k2, c4 e k1 k2]⟩
    rw [d1, ob_s]
theorem m_two {I : Nat → Nat → Int32} {ps : List (Nat × Nat)} {a b : Nat} (h1 : 1 ≤ a) (h2 : a < b) (h3 : b ≤ 121) (hR : RepM I ps) : ∃ I', f_X7_two (MM n x w I L Q D) 64 (nI a) (nI b) = some (MM n x w I' L Q D) ∧ RepM I' ((a, b) :: ps) ∧ ∀ e, e ≠ 79 → I' e = I e := by
  refine ⟨s2 (s2 I 79 (a - 1) (nI (b - a))) 79 (b - 1) (nI (b - a)), ?_, fun k hk => ?_, fun e e1 => by rw [s2_row e1, s2_row e1]⟩
  · unfold f_X7_two
    rw [if_neg (nI_ge h2 (by omega)), pk_sub (by omega), r_64_29, ob_s, li1, pk_sub (by omega), a_set (a := 79) (len := 121) rfl (Or.inl rfl) (by omega) (by decide), ob_s, r_64_29, ob_s, pk_sub (by omega), a_set (a := 79) (len := 121) rfl (Or.inl rfl) (by omega) (by decide), ob_s]
  · rw [rowT, s2_at]
    by_cases z1 : k = b - 1
    · rw [if_pos ⟨rfl, z1⟩, if_pos (Or.inr (by show k + 1 = b; omega))]
    · rw [if_neg (fun y => z1 y.2), s2_at]
      by_cases z2 : k = a - 1
      · rw [if_pos ⟨rfl, z2⟩, if_pos (Or.inl (by show k + 1 = a; omega))]
      · rw [if_neg (fun y => z2 y.2), if_neg (by show ¬ (k + 1 = a ∨ k + 1 = b); omega)]
        exact hR k hk
theorem m_f71 {m : Nat} (hm : 2 ≤ m) (hm2 : m ≤ 15) : ∀ (j r fu : Nat) (I : Nat → Nat → Int32) (ps : List (Nat × Nat)), 1 ≤ r → r + j = m → j < fu → RepM I ps → ∃ I', f_X7_laysFours_71 fu 64 (nI m) (nI r) (MM n x w I L Q D) = some (MM n x w I' L Q D) ∧ RepM I' ((2 * m, 4 * m - 1) :: (2 * m + 1, 6 * m) :: nsL 0 (4 * m - 1) r j ps) ∧ ∀ e, e ≠ 79 → I' e = I e
  | 0, r, fu, I, ps, h1, h, hf, hR => by
    obtain ⟨fu, rfl⟩ : ∃ n9, fu = n9 + 1 := ⟨fu - 1, by omega⟩
    obtain ⟨I1, a1, b1, c1⟩ := m_two (n := n) (x := x) (w := w) (L := L) (Q := Q) (D := D) (a := 2 * m + 1) (b := 6 * m) (by omega) (by omega) (by omega) hR
    obtain ⟨I2, a2, b2, c2⟩ := m_two (n := n) (x := x) (w := w) (L := L) (Q := Q) (D := D) (a := 2 * m) (b := 4 * m - 1) (by omega) (by omega) (by omega) b1
    refine ⟨I2, ?_, b2, fun e k => by rw [c2 e k, c1 e k]⟩
    rw [f_X7_laysFours_71, if_pos (nI_le (by omega) (by omega)), o_64, if_pos rfl, show (2 : Int32) * nI m = nI (2 * m) from pk_mul 2 m, show nI (2 * m) + 1 = nI (2 * m + 1) from nI_1 _, show (6 : Int32) * nI m = nI (6 * m) from pk_mul 6 m, a1, ob_s, o_64, if_pos rfl, show (4 : Int32) * nI m - 1 = nI (4 * m - 1) by rw [show (4 : Int32) * nI m = nI (4 * m) from pk_mul 4 m]; exact pk_sub (b := 1) (by omega), a2, ob_s]
  | j + 1, r, fu, I, ps, h1, h, hf, hR => by
    obtain ⟨fu, rfl⟩ : ∃ n9, fu = n9 + 1 := ⟨fu - 1, by omega⟩
    obtain ⟨I1, a1, b1, c1⟩ := m_two (n := n) (x := x) (w := w) (L := L) (Q := Q) (D := D) (a := r) (b := 4 * m - 1 - r) (by omega) (by omega) (by omega) hR
    obtain ⟨I2, a2, b2, c2⟩ := m_f71 hm hm2 j (r + 1) fu I1 ((r, 4 * m - 1 - r) :: ps) (by omega) (by omega) (by omega) b1
    refine ⟨I2, ?_, ?_, fun e k => by rw [c2 e k, c1 e k]⟩
    · rw [f_X7_laysFours_71, if_neg (nI_ge (by omega) (by omega)), o_64, if_pos rfl, show (4 : Int32) * nI m - 1 = nI (4 * m - 1) by rw [show (4 : Int32) * nI m = nI (4 * m) from pk_mul 4 m]; exact pk_sub (b := 1) (by omega), pk_sub (by omega), a1, ob_s, nI_1]
      exact a2
    · rw [nsL, Nat.zero_add]
      exact b2
theorem m_f40 {m : Nat} (hm : 2 ≤ m) (hm2 : m ≤ 15) : ∀ (j r fu : Nat) (I : Nat → Nat → Int32) (ps : List (Nat × Nat)), r + j = m - 2 → j < fu → RepM I ps → ∃ I', f_X7_laysFours_40 fu 64 (nI m) (nI r) (MM n x w I L Q D) = f_X7_laysFours_71 4096 64 (nI m) 1 (MM n x w I' L Q D) ∧ RepM I' (nsL (m + 2) (3 * m - 1) r j ps) ∧ ∀ e, e ≠ 79 → I' e = I e
  | 0, r, fu, I, ps, h, hf, hR => by
    obtain ⟨fu, rfl⟩ : ∃ n9, fu = n9 + 1 := ⟨fu - 1, by omega⟩
    refine ⟨I, ?_, hR, fun _ _ => rfl⟩
    rw [f_X7_laysFours_40, if_pos (show nI m - 3 < nI r by rw [show nI m = nI (m - 2) + 2 by rw [show (2 : Int32) = nI 2 from rfl, nI_add]; congr 1; omega, i3]; exact (lt_pred (by omega) (by omega)).mpr (by omega))]
  | j + 1, r, fu, I, ps, h, hf, hR => by
    obtain ⟨fu, rfl⟩ : ∃ n9, fu = n9 + 1 := ⟨fu - 1, by omega⟩
    obtain ⟨I1, a1, b1, c1⟩ := m_two (n := n) (x := x) (w := w) (L := L) (Q := Q) (D := D) (a := m + 2 + r) (b := 3 * m - 1 - r) (by omega) (by omega) (by omega) hR
    obtain ⟨I2, a2, b2, c2⟩ := m_f40 hm hm2 j (r + 1) fu I1 ((m + 2 + r, 3 * m - 1 - r) :: ps) (by omega) (by omega) b1
    refine ⟨I2, ?_, b2, fun e k => by rw [c2 e k, c1 e k]⟩
    rw [f_X7_laysFours_40, if_neg (show ¬ nI m - 3 < nI r by rw [show nI m = nI (m - 2) + 2 by rw [show (2 : Int32) = nI 2 from rfl, nI_add]; congr 1; omega, i3]; exact fun z => by have := (lt_pred (by omega) (by omega)).mp z; omega), o_64, if_pos rfl, show nI m + 2 = nI (m + 2) from nI_add m 2, nI_add, show (3 : Int32) * nI m - 1 = nI (3 * m - 1) by rw [show (3 : Int32) * nI m = nI (3 * m) from pk_mul 3 m]; exact pk_sub (b := 1) (by omega), pk_sub (by omega), a1, ob_s, nI_1]
    exact a2
theorem m_f2 {m : Nat} (hm : 2 ≤ m) (hm2 : m ≤ 15) : ∀ (j r fu : Nat) (I : Nat → Nat → Int32) (ps : List (Nat × Nat)), r + j = 2 * m → j < fu → RepM I ps → ∃ I', f_X7_laysFours_2 fu 64 (nI m) (nI r) (MM n x w I L Q D) = f_X7_laysFours_40 4096 64 (nI m) 0 (MM n x w I' L Q D) ∧ RepM I' ((m, m + 1) :: nsL (4 * m) (8 * m) r j ps) ∧ ∀ e, e ≠ 79 → I' e = I e
  | 0, r, fu, I, ps, h, hf, hR => by
    obtain ⟨fu, rfl⟩ : ∃ n9, fu = n9 + 1 := ⟨fu - 1, by omega⟩
    obtain ⟨I1, a1, b1, c1⟩ := m_two (n := n) (x := x) (w := w) (L := L) (Q := Q) (D := D) (a := m) (b := m + 1) (by omega) (by omega) (by omega) hR
    refine ⟨I1, ?_, b1, c1⟩
    rw [f_X7_laysFours_2, show (2 : Int32) * nI m = nI (2 * m) from pk_mul 2 m, if_pos (nI_le (by omega) (by omega)), o_64, if_pos rfl, nI_1, a1, ob_s]
  | j + 1, r, fu, I, ps, h, hf, hR => by
    obtain ⟨fu, rfl⟩ : ∃ n9, fu = n9 + 1 := ⟨fu - 1, by omega⟩
    obtain ⟨I1, a1, b1, c1⟩ := m_two (n := n) (x := x) (w := w) (L := L) (Q := Q) (D := D) (a := 4 * m + r) (b := 8 * m - r) (by omega) (by omega) (by omega) hR
    obtain ⟨I2, a2, b2, c2⟩ := m_f2 hm hm2 j (r + 1) fu I1 ((4 * m + r, 8 * m - r) :: ps) (by omega) (by omega) b1
    refine ⟨I2, ?_, b2, fun e k => by rw [c2 e k, c1 e k]⟩
    rw [f_X7_laysFours_2, show (2 : Int32) * nI m = nI (2 * m) from pk_mul 2 m, if_neg (nI_ge (by omega) (by omega)), o_64, if_pos rfl, show (4 : Int32) * nI m = nI (4 * m) from pk_mul 4 m, nI_add, show (8 : Int32) * nI m = nI (8 * m) from pk_mul 8 m, pk_sub (by omega), a1, ob_s, nI_1]
    exact a2
theorem m_mk0 {I : Nat → Nat → Int32} {m : Nat} (hm : 2 ≤ m) (hm2 : m ≤ 15) (hR : RepM I []) : ∃ I', f_X7_laysFours (MM n x w I L Q D) 64 (nI m) = some (MM n x w I' L Q D) ∧ RepM I' (mk0 m) ∧ ∀ e, e ≠ 79 → I' e = I e := by
  obtain ⟨I1, a1, b1, c1⟩ := m_f2 (n := n) (x := x) (w := w) (L := L) (Q := Q) (D := D) hm hm2 (2 * m) 0 4096 I [] (by omega) (by omega) hR
  obtain ⟨I2, a2, b2, c2⟩ := m_f40 (n := n) (x := x) (w := w) (L := L) (Q := Q) (D := D) hm hm2 (m - 2) 0 4096 I1 _ (by omega) (by omega) b1
  obtain ⟨I3, a3, b3, c3⟩ := m_f71 (n := n) (x := x) (w := w) (L := L) (Q := Q) (D := D) hm hm2 (m - 1) 1 4096 I2 _ (by omega) (by omega) (by omega) b2
  refine ⟨I3, ?_, b3, fun e k => by rw [c3 e k, c2 e k, c1 e k]⟩
  exact a1.trans (a2.trans a3)
theorem m_o100 {m : Nat} (hm : 2 ≤ m) (hm2 : m ≤ 14) : ∀ (j r fu : Nat) (I : Nat → Nat → Int32) (ps : List (Nat × Nat)), 1 ≤ r → r + j = m - 1 → j < fu → RepM I ps → ∃ I', f_X7_laysOnes_100 fu 64 (nI m) (nI r) (MM n x w I L Q D) = some (MM n x w I' L Q D) ∧ RepM I' (nsL (m + 2) (3 * m + 1) r j ps) ∧ ∀ e, e ≠ 79 → I' e = I e
  | 0, r, fu, I, ps, h1, h, hf, hR => by
    obtain ⟨fu, rfl⟩ : ∃ n9, fu = n9 + 1 := ⟨fu - 1, by omega⟩
    refine ⟨I, ?_, hR, fun _ _ => rfl⟩
    rw [f_X7_laysOnes_100, if_pos (show nI m - 2 < nI r by rw [show nI m = nI (m - 1) + 1 by rw [nI_1]; congr 1; omega, i2]; exact (lt_pred (by omega) (by omega)).mpr (by omega))]
  | j + 1, r, fu, I, ps, h1, h, hf, hR => by
    obtain ⟨fu, rfl⟩ : ∃ n9, fu = n9 + 1 := ⟨fu - 1, by omega⟩
    obtain ⟨I1, a1, b1, c1⟩ := m_two (n := n) (x := x) (w := w) (L := L) (Q := Q) (D := D) (a := m + 2 + r) (b := 3 * m + 1 - r) (by omega) (by omega) (by omega) hR
    obtain ⟨I2, a2, b2, c2⟩ := m_o100 hm hm2 j (r + 1) fu I1 ((m + 2 + r, 3 * m + 1 - r) :: ps) (by omega) (by omega) (by omega) b1
    refine ⟨I2, ?_, b2, fun e k => by rw [c2 e k, c1 e k]⟩
    rw [f_X7_laysOnes_100, if_neg (show ¬ nI m - 2 < nI r by rw [show nI m = nI (m - 1) + 1 by rw [nI_1]; congr 1; omega, i2]; exact fun z => by have := (lt_pred (by omega) (by omega)).mp z; omega), o_64, if_pos rfl, show nI m + 2 = nI (m + 2) from nI_add m 2, nI_add, show (3 : Int32) * nI m = nI (3 * m) from pk_mul 3 m, show nI (3 * m) + 1 = nI (3 * m + 1) from nI_1 _, pk_sub (by omega), a1, ob_s, nI_1]
    exact a2
theorem m_o36 {m : Nat} (hm : 2 ≤ m) (hm2 : m ≤ 14) : ∀ (j r fu : Nat) (I : Nat → Nat → Int32) (ps : List (Nat × Nat)), 1 ≤ r → r + j = m + 1 → j < fu → RepM I ps → ∃ I', f_X7_laysOnes_36 fu 64 (nI m) (nI r) (MM n x w I L Q D) = f_X7_laysOnes_100 4096 64 (nI m) 1 (MM n x w I' L Q D) ∧ RepM I' ((m + 1, m + 2) :: (2 * m + 2, 4 * m + 1) :: (2 * m + 1, 6 * m + 2) :: nsL 0 (4 * m + 1) r j ps) ∧ ∀ e, e ≠ 79 → I' e = I e
  | 0, r, fu, I, ps, h1, h, hf, hR => by
    obtain ⟨fu, rfl⟩ : ∃ n9, fu = n9 + 1 := ⟨fu - 1, by omega⟩
    obtain ⟨I1, a1, b1, c1⟩ := m_two (n := n) (x := x) (w := w) (L := L) (Q := Q) (D := D) (a := 2 * m + 1) (b := 6 * m + 2) (by omega) (by omega) (by omega) hR
    obtain ⟨I2, a2, b2, c2⟩ := m_two (n := n) (x := x) (w := w) (L := L) (Q := Q) (D := D) (a := 2 * m + 2) (b := 4 * m + 1) (by omega) (by omega) (by omega) b1
    obtain ⟨I3, a3, b3, c3⟩ := m_two (n := n) (x := x) (w := w) (L := L) (Q := Q) (D := D) (a := m + 1) (b := m + 2) (by omega) (by omega) (by omega) b2
    refine ⟨I3, ?_, b3, fun e k => by rw [c3 e k, c2 e k, c1 e k]⟩
    rw [f_X7_laysOnes_36, if_pos (nI_lt (by omega) (by omega)), o_64, if_pos rfl, show (2 : Int32) * nI m + 1 = nI (2 * m + 1) by rw [show (2 : Int32) * nI m = nI (2 * m) from pk_mul 2 m]; exact nI_1 _, show (6 : Int32) * nI m + 2 = nI (6 * m + 2) by rw [show (6 : Int32) * nI m = nI (6 * m) from pk_mul 6 m]; exact nI_add _ 2, a1, ob_s, o_64, if_pos rfl, show (2 : Int32) * nI m + 2 = nI (2 * m + 2) by rw [show (2 : Int32) * nI m = nI (2 * m) from pk_mul 2 m]; exact nI_add _ 2, show (4 : Int32) * nI m + 1 = nI (4 * m + 1) by rw [show (4 : Int32) * nI m = nI (4 * m) from pk_mul 4 m]; exact nI_1 _, a2, ob_s, o_64, if_pos rfl, show nI m + 2 = nI (m + 2) from nI_add m 2, show nI m + 1 = nI (m + 1) from nI_1 m, a3, ob_s]
  | j + 1, r, fu, I, ps, h1, h, hf, hR => by
    obtain ⟨fu, rfl⟩ : ∃ n9, fu = n9 + 1 := ⟨fu - 1, by omega⟩
    obtain ⟨I1, a1, b1, c1⟩ := m_two (n := n) (x := x) (w := w) (L := L) (Q := Q) (D := D) (a := r) (b := 4 * m + 1 - r) (by omega) (by omega) (by omega) hR
    obtain ⟨I2, a2, b2, c2⟩ := m_o36 hm hm2 j (r + 1) fu I1 ((r, 4 * m + 1 - r) :: ps) (by omega) (by omega) (by omega) b1
    refine ⟨I2, ?_, ?_, fun e k => by rw [c2 e k, c1 e k]⟩
    · rw [f_X7_laysOnes_36, if_neg (nI_nlt (by omega) (by omega)), o_64, if_pos rfl, show (4 : Int32) * nI m + 1 = nI (4 * m + 1) by rw [show (4 : Int32) * nI m = nI (4 * m) from pk_mul 4 m]; exact nI_1 _, pk_sub (by omega), a1, ob_s, nI_1]
      exact a2
    · rw [nsL, Nat.zero_add]
      exact b2
theorem m_o2 {m : Nat} (hm : 2 ≤ m) (hm2 : m ≤ 14) : ∀ (j r fu : Nat) (I : Nat → Nat → Int32) (ps : List (Nat × Nat)), r + j = 2 * m → j < fu → RepM I ps → ∃ I', f_X7_laysOnes_2 fu 64 (nI m) (nI r) (MM n x w I L Q D) = f_X7_laysOnes_36 4096 64 (nI m) 1 (MM n x w I' L Q D) ∧ RepM I' (nsL (4 * m + 2) (8 * m + 2) r j ps) ∧ ∀ e, e ≠ 79 → I' e = I e
  | 0, r, fu, I, ps, h, hf, hR => by
    obtain ⟨fu, rfl⟩ : ∃ n9, fu = n9 + 1 := ⟨fu - 1, by omega⟩
    refine ⟨I, ?_, hR, fun _ _ => rfl⟩
    rw [f_X7_laysOnes_2, show (2 : Int32) * nI m = nI (2 * m) from pk_mul 2 m, if_pos (nI_le (by omega) (by omega))]
  | j + 1, r, fu, I, ps, h, hf, hR => by
    obtain ⟨fu, rfl⟩ : ∃ n9, fu = n9 + 1 := ⟨fu - 1, by omega⟩
    obtain ⟨I1, a1, b1, c1⟩ := m_two (n := n) (x := x) (w := w) (L := L) (Q := Q) (D := D) (a := 4 * m + 2 + r) (b := 8 * m + 2 - r) (by omega) (by omega) (by omega) hR
    obtain ⟨I2, a2, b2, c2⟩ := m_o2 hm hm2 j (r + 1) fu I1 ((4 * m + 2 + r, 8 * m + 2 - r) :: ps) (by omega) (by omega) b1
    refine ⟨I2, ?_, b2, fun e k => by rw [c2 e k, c1 e k]⟩
    rw [f_X7_laysOnes_2, show (2 : Int32) * nI m = nI (2 * m) from pk_mul 2 m, if_neg (nI_ge (by omega) (by omega)), o_64, if_pos rfl, show (4 : Int32) * nI m + 2 = nI (4 * m + 2) by rw [show (4 : Int32) * nI m = nI (4 * m) from pk_mul 4 m]; exact nI_add _ 2, nI_add, show (8 : Int32) * nI m + 2 = nI (8 * m + 2) by rw [show (8 : Int32) * nI m = nI (8 * m) from pk_mul 8 m]; exact nI_add _ 2, pk_sub (by omega), a1, ob_s, nI_1]
    exact a2
theorem m_mk1 {I : Nat → Nat → Int32} {m : Nat} (hm : 2 ≤ m) (hm2 : m ≤ 14) (hR : RepM I []) : ∃ I', f_X7_laysOnes (MM n x w I L Q D) 64 (nI m) = some (MM n x w I' L Q D) ∧ RepM I' (mk1 m) ∧ ∀ e, e ≠ 79 → I' e = I e := by
  obtain ⟨I1, a1, b1, c1⟩ := m_o2 (n := n) (x := x) (w := w) (L := L) (Q := Q) (D := D) hm hm2 (2 * m) 0 4096 I [] (by omega) (by omega) hR
  obtain ⟨I2, a2, b2, c2⟩ := m_o36 (n := n) (x := x) (w := w) (L := L) (Q := Q) (D := D) hm hm2 m 1 4096 I1 _ (by omega) (by omega) (by omega) b1
  obtain ⟨I3, a3, b3, c3⟩ := m_o100 (n := n) (x := x) (w := w) (L := L) (Q := Q) (D := D) hm hm2 (m - 2) 1 4096 I2 _ (by omega) (by omega) (by omega) b2
  refine ⟨I3, ?_, b3, fun e k => by rw [c3 e k, c2 e k, c1 e k]⟩
  exact a1.trans (a2.trans a3)
theorem m_t74 {m : Nat} (hm : 1 ≤ m) (hm2 : m ≤ 14) : ∀ (j r fu : Nat) (I : Nat → Nat → Int32) (ps : List (Nat × Nat)), 1 ≤ r → r + j = m → j < fu → RepM I ps → ∃ I', f_X7_laysTwos_74 fu 64 (nI m) (nI r) (MM n x w I L Q D) = some (MM n x w I' L Q D) ∧ RepM I' ((7 * m + 3, 7 * m + 4) :: ilL m r j ps) ∧ ∀ e, e ≠ 79 → I' e = I e
  | 0, r, fu, I, ps, h1, h, hf, hR => by
    obtain ⟨fu, rfl⟩ : ∃ n9, fu = n9 + 1 := ⟨fu - 1, by omega⟩
    obtain ⟨I1, a1, b1, c1⟩ := m_two (n := n) (x := x) (w := w) (L := L) (Q := Q) (D := D) (a := 7 * m + 3) (b := 7 * m + 4) (by omega) (by omega) (by omega) hR
    refine ⟨I1, ?_, b1, c1⟩
    rw [f_X7_laysTwos_74, if_pos (nI_le (by omega) (by omega)), o_64, if_pos rfl, show (7 : Int32) * nI m = nI (7 * m) from pk_mul 7 m, show nI (7 * m) + 3 = nI (7 * m + 3) from nI_add _ 3, show nI (7 * m) + 4 = nI (7 * m + 4) from nI_add _ 4, a1, ob_s]
  | j + 1, r, fu, I, ps, h1, h, hf, hR => by
    obtain ⟨fu, rfl⟩ : ∃ n9, fu = n9 + 1 := ⟨fu - 1, by omega⟩
    obtain ⟨I1, a1, b1, c1⟩ := m_two (n := n) (x := x) (w := w) (L := L) (Q := Q) (D := D) (a := 4 * m + 3 + r) (b := 8 * m + 4 - r) (by omega) (by omega) (by omega) hR
    obtain ⟨I2, a2, b2, c2⟩ := m_two (n := n) (x := x) (w := w) (L := L) (Q := Q) (D := D) (a := 5 * m + 2 + r) (b := 7 * m + 3 - r) (by omega) (by omega) (by omega) b1
    obtain ⟨I3, a3, b3, c3⟩ := m_t74 hm hm2 j (r + 1) fu I2 ((5 * m + 2 + r, 7 * m + 3 - r) :: (4 * m + 3 + r, 8 * m + 4 - r) :: ps) (by omega) (by omega) (by omega) b2
    refine ⟨I3, ?_, b3, fun e k => by rw [c3 e k, c2 e k, c1 e k]⟩
    rw [f_X7_laysTwos_74, if_neg (nI_ge (by omega) (by omega)), o_64, if_pos rfl, show (4 : Int32) * nI m + 3 = nI (4 * m + 3) by rw [show (4 : Int32) * nI m = nI (4 * m) from pk_mul 4 m]; exact nI_add _ 3, nI_add, show (8 : Int32) * nI m + 4 = nI (8 * m + 4) by rw [show (8 : Int32) * nI m = nI (8 * m) from pk_mul 8 m]; exact nI_add _ 4, pk_sub (by omega), a1, ob_s, o_64, if_pos rfl, show (5 : Int32) * nI m + 2 = nI (5 * m + 2) by rw [show (5 : Int32) * nI m = nI (5 * m) from pk_mul 5 m]; exact nI_add _ 2, nI_add, show (7 : Int32) * nI m + 3 = nI (7 * m + 3) by rw [show (7 : Int32) * nI m = nI (7 * m) from pk_mul 7 m]; exact nI_add _ 3, pk_sub (by omega), a2, ob_s, nI_1]
    exact a3
theorem m_t2 {m : Nat} (hm : 1 ≤ m) (hm2 : m ≤ 14) : ∀ (j r fu : Nat) (I : Nat → Nat → Int32) (ps : List (Nat × Nat)), 1 ≤ r → r + j = 2 * m + 1 → j < fu → RepM I ps → ∃ I', f_X7_laysTwos_2 fu 64 (nI m) (nI r) (MM n x w I L Q D) = f_X7_laysTwos_74 4096 64 (nI m) 1 (MM n x w I' L Q D) ∧ RepM I' ((4 * m + 3, 8 * m + 5) :: (4 * m + 2, 6 * m + 3) :: (2 * m + 1, 6 * m + 2) :: nsL 0 (4 * m + 2) r j ps) ∧ ∀ e, e ≠ 79 → I' e = I e
  | 0, r, fu, I, ps, h1, h, hf, hR => by
    obtain ⟨fu, rfl⟩ : ∃ n9, fu = n9 + 1 := ⟨fu - 1, by omega⟩
    obtain ⟨I1, a1, b1, c1⟩ := m_two (n := n) (x := x) (w := w) (L := L) (Q := Q) (D := D) (a := 2 * m + 1) (b := 6 * m + 2) (by omega) (by omega) (by omega) hR
    obtain ⟨I2, a2, b2, c2⟩ := m_two (n := n) (x := x) (w := w) (L := L) (Q := Q) (D := D) (a := 4 * m + 2) (b := 6 * m + 3) (by omega) (by omega) (by omega) b1
    obtain ⟨I3, a3, b3, c3⟩ := m_two (n := n) (x := x) (w := w) (L := L) (Q := Q) (D := D) (a := 4 * m + 3) (b := 8 * m + 5) (by omega) (by omega) (by omega) b2
    refine ⟨I3, ?_, b3, fun e k => by rw [c3 e k, c2 e k, c1 e k]⟩
    rw [f_X7_laysTwos_2, show (2 : Int32) * nI m = nI (2 * m) from pk_mul 2 m, if_pos (nI_lt (by omega) (by omega)), o_64, if_pos rfl, show nI (2 * m) + 1 = nI (2 * m + 1) from nI_1 _, show (6 : Int32) * nI m = nI (6 * m) from pk_mul 6 m, show nI (6 * m) + 2 = nI (6 * m + 2) from nI_add _ 2, a1, ob_s, o_64, if_pos rfl, show (4 : Int32) * nI m = nI (4 * m) from pk_mul 4 m, show nI (4 * m) + 2 = nI (4 * m + 2) from nI_add _ 2, show nI (6 * m) + 3 = nI (6 * m + 3) from nI_add _ 3, a2, ob_s, o_64, if_pos rfl, show nI (4 * m) + 3 = nI (4 * m + 3) from nI_add _ 3, show (8 : Int32) * nI m + 5 = nI (8 * m + 5) by rw [show (8 : Int32) * nI m = nI (8 * m) from pk_mul 8 m]; exact nI_add _ 5, a3, ob_s]
  | j + 1, r, fu, I, ps, h1, h, hf, hR => by
    obtain ⟨fu, rfl⟩ : ∃ n9, fu = n9 + 1 := ⟨fu - 1, by omega⟩
    obtain ⟨I1, a1, b1, c1⟩ := m_two (n := n) (x := x) (w := w) (L := L) (Q := Q) (D := D) (a := r) (b := 4 * m + 2 - r) (by omega) (by omega) (by omega) hR
    obtain ⟨I2, a2, b2, c2⟩ := m_t2 hm hm2 j (r + 1) fu I1 ((r, 4 * m + 2 - r) :: ps) (by omega) (by omega) (by omega) b1
    refine ⟨I2, ?_, ?_, fun e k => by rw [c2 e k, c1 e k]⟩
    · rw [f_X7_laysTwos_2, show (2 : Int32) * nI m = nI (2 * m) from pk_mul 2 m, if_neg (nI_nlt (by omega) (by omega)), o_64, if_pos rfl, show (4 : Int32) * nI m + 2 = nI (4 * m + 2) by rw [show (4 : Int32) * nI m = nI (4 * m) from pk_mul 4 m]; exact nI_add _ 2, pk_sub (by omega), a1, ob_s, nI_1]
      exact a2
    · rw [nsL, Nat.zero_add]
      exact b2
theorem m_mk2 {I : Nat → Nat → Int32} {m : Nat} (hm : 1 ≤ m) (hm2 : m ≤ 14) (hR : RepM I []) : ∃ I', f_X7_laysTwos (MM n x w I L Q D) 64 (nI m) = some (MM n x w I' L Q D) ∧ RepM I' (ml2 m) ∧ ∀ e, e ≠ 79 → I' e = I e := by
  obtain ⟨I1, a1, b1, c1⟩ := m_t2 (n := n) (x := x) (w := w) (L := L) (Q := Q) (D := D) hm hm2 (2 * m) 1 4096 I [] (by omega) (by omega) (by omega) hR
  obtain ⟨I2, a2, b2, c2⟩ := m_t74 (n := n) (x := x) (w := w) (L := L) (Q := Q) (D := D) hm hm2 (m - 1) 1 4096 I1 _ (by omega) (by omega) (by omega) b1
  refine ⟨I2, ?_, b2, fun e k => by rw [c2 e k, c1 e k]⟩
  exact a1.trans a2
theorem m_made_z {v : Int32} : ∀ (j u fu : Nat) (I : Nat → Nat → Int32), u + j = 121 → j < fu → ∃ I', f_X7_made_33 fu 64 v (nI u) (MM n x w I L Q D) = f_X7_made_33 (fu - j) 64 v (nI 121) (MM n x w I' L Q D) ∧ (∀ k, I' 79 k = if u ≤ k ∧ k < 121 then 0 else I 79 k) ∧ ∀ e, e ≠ 79 → I' e = I e
  | 0, u, fu, I, h, hf => by
    obtain rfl : u = 121 := by omega
    exact ⟨I, rfl, fun k => by rw [if_neg (by omega)], fun _ _ => rfl⟩
  | j + 1, u, fu, I, h, hf => by
    obtain ⟨fu, rfl⟩ : ∃ n9, fu = n9 + 1 := ⟨fu - 1, by omega⟩
    obtain ⟨I', e1, e2, e3⟩ := m_made_z (v := v) j (u + 1) fu (s2 I 79 u 0) (by omega) (by omega)
    refine ⟨I', ?_, fun k => ?_, fun e he => by rw [e3 e he, s2_row he]⟩
    · rw [f_X7_made_33, if_neg (show ¬ (121 : Int32) ≤ nI u from nI_ge (b := 121) (by omega) (by decide)), r_64_29, ob_s, a_set (a := 79) (len := 121) rfl (Or.inl rfl) (by omega) (by decide), ob_s, nI_1, e1, show fu + 1 - (j + 1) = fu - j by omega]
    · rw [e2, s2_at]
      by_cases z : k = u
      · rw [if_neg (by omega), if_pos ⟨rfl, z⟩, if_pos (by omega)]
      · rw [if_neg (c := 79 = 79 ∧ k = u) (fun y => z y.2)]
        by_cases y : u + 1 ≤ k ∧ k < 121
        · rw [if_pos y, if_pos (by omega)]
        · rw [if_neg y, if_neg (by omega)]
end MADE2
