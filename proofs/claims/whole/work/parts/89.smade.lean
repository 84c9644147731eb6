/-! made -/
section SMADE
variable {n : Nat} {x : Nat → Nat → Int32} {w : Int64} {L : Nat → Nat → Int64} {Q : Nat → Nat → Option Nat} {D : Nat → Bool}
theorem m_make {I : Nat → Nat → Int32} {o : Nat} (h : okO o = true) : ∃ I', f_X7_made_33 4096 64 (nI o) 0 (MM n x w I L Q D) = some (nI (plO o), MM n (s2 x 64 28 (nI (plO o))) w I' L Q D) ∧ LKM (s2 x 64 28 (nI (plO o))) I' (some (plO o)) (roO o) ∧ ∀ e, e ≠ 78 → e ≠ 79 → I' e = I e := by
  have ho := okO_c h
  have h61 : o < 61 := by omega
  have erem : nI o - nI o / (4 : Int32) * (4 : Int32) = nI (o % 4) := pk_rem (d := 4) (by omega) (by decide) (by decide)
  have ediv : nI o / (4 : Int32) = nI (o / 4) := pk_div (d := 4) (by omega) (by decide) (by decide)
  have e2o : (2 : Int32) * nI o = nI (2 * o) := pk_mul 2 o
  obtain ⟨I1, z1, z2, z3⟩ := m_made_z (n := n) (x := x) (w := w) (L := L) (Q := Q) (D := D) (v := nI o) 121 0 4096 I (by omega) (by omega)
  have hR : RepM I1 [] := fun k hk => by rw [z2, if_pos ⟨by omega, hk⟩]; rfl
  have fin : ∀ I2 : Nat → Nat → Int32, RepM I2 (pmO o) → (∀ e, e ≠ 79 → I2 e = I1 e) → ∃ I', f_X7_looks (MM n x w I2 L Q D) 64 79 (nI (plO o)) = some (MM n (s2 x 64 28 (nI (plO o))) w I' L Q D) ∧ LKM (s2 x 64 28 (nI (plO o))) I' (some (plO o)) (roO o) ∧ ∀ e, e ≠ 78 → e ≠ 79 → I' e = I e := fun I2 hr he => by
    have hp := plO_le h61
    obtain ⟨I3, d1, d2, d3⟩ := m_looks (n := n) (x := x) (w := w) (I := I2) (L := L) (Q := Q) (D := D) (a := 79) (la := 121) (t := roO o) rfl (by decide) (by decide) (c := plO o) hp hp (fun k hk => by rw [hr k (by omega), (chk1_ok h61 h (by omega)).2])
    exact ⟨I3, d1, d2, fun e k1 k2 => by rw [d3 e k1, he e k2, z3 e k2]⟩
  show ∃ I', f_X7_made_33 4096 64 (nI o) (nI 0) (MM n x w I L Q D) = _ ∧ _
  rw [z1]
  show ∃ I', f_X7_made_33 (3974 + 1) 64 (nI o) (nI 121) _ = _ ∧ _
  rw [f_X7_made_33, if_pos (by decide), erem, ediv, e2o]
  rcases (show o % 4 = 0 ∨ o % 4 = 1 ∨ o % 4 = 2 by omega) with z | z | z
  · have hp : plO o = 2 * o := by unfold plO; rw [if_neg (by omega)]
    have hps : pmO o = mk0 (o / 4) := by unfold pmO; rw [if_pos z]
    obtain ⟨I2, d1, d2, d3⟩ := m_mk0 (n := n) (x := x) (w := w) (L := L) (Q := Q) (D := D) (m := o / 4) (by omega) (by omega) hR
    obtain ⟨I3, f1, f2, f3⟩ := fin I2 (by rw [hps]; exact d2) d3
    refine ⟨I3, ?_, f2, f3⟩
    rw [hp] at f1 ⊢
    rw [z, if_pos (show nI 0 = 0 from rfl), o_64, if_pos rfl, d1, ob_s, if_neg (show ¬ nI 0 = 1 by decide), if_neg (show ¬ nI 0 = 2 by decide), r_64_29, ob_s, if_neg (show ¬ nI 0 = 2 by decide), o_64, if_pos rfl, f1, ob_s, g_64_28, ob_s, s2_e]
  · have hp : plO o = 2 * o := by unfold plO; rw [if_neg (by omega)]
    have hps : pmO o = mk1 (o / 4) := by unfold pmO; rw [if_neg (by omega), if_pos z]
    obtain ⟨I2, d1, d2, d3⟩ := m_mk1 (n := n) (x := x) (w := w) (L := L) (Q := Q) (D := D) (m := o / 4) (by omega) (by omega) hR
    obtain ⟨I3, f1, f2, f3⟩ := fin I2 (by rw [hps]; exact d2) d3
    refine ⟨I3, ?_, f2, f3⟩
    rw [hp] at f1 ⊢
    rw [z, if_neg (show ¬ nI 1 = 0 by decide), if_pos (show nI 1 = 1 from rfl), o_64, if_pos rfl, d1, ob_s, if_neg (show ¬ nI 1 = 2 by decide), r_64_29, ob_s, if_neg (show ¬ nI 1 = 2 by decide), o_64, if_pos rfl, f1, ob_s, g_64_28, ob_s, s2_e]
  · have hp : plO o = 2 * o + 1 := by unfold plO; rw [if_pos z]
    have hps : pmO o = ml2 (o / 4) := by unfold pmO; rw [if_neg (by omega), if_neg (by omega)]
    obtain ⟨I2, d1, d2, d3⟩ := m_mk2 (n := n) (x := x) (w := w) (L := L) (Q := Q) (D := D) (m := o / 4) (by omega) (by omega) hR
    obtain ⟨I3, f1, f2, f3⟩ := fin I2 (by rw [hps]; exact d2) d3
    refine ⟨I3, ?_, f2, f3⟩
    rw [hp] at f1 ⊢
    rw [z, if_neg (show ¬ nI 2 = 0 by decide), if_neg (show ¬ nI 2 = 1 by decide), if_pos (show nI 2 = 2 from rfl), o_64, if_pos rfl, d1, ob_s, r_64_29, ob_s, if_pos (show nI 2 = 2 from rfl), o_64, if_pos rfl, nI_1, f1, ob_s, g_64_28, ob_s, s2_e]
end SMADE
theorem s_made : S_made (INVp PCc) := by
  intro h hI a1
  by_cases hd : ∃ o, okO o = true ∧ a1 = nI o
  · obtain ⟨o, hok, rfl⟩ := hd
    have ho := okO_c hok
    have h61 : o < 61 := by omega
    have hp := plO_le h61
    have erem : nI o - nI o / (4 : Int32) * (4 : Int32) = nI (o % 4) := pk_rem (d := 4) (by omega) (by decide) (by decide)
    have hn3 : ¬ nI (o % 4) = 3 := fun z => ho.2 ((nI_eq (b := 3) (by omega) (by decide)).mp z)
    refine both (fC := fun h => f_X6_made h 0 (nI o)) (fM := fun h => f_X7_made h 64 (nI o)) pcc_ok.sc (fun _ => nI (plO o)) (fun S => lookS S (plO o) (roO o)) (fun n x w I L Q D S hc => ?_) (fun n x w I L Q D S hb hm => ?_) hI
    · obtain ⟨I1, e1, e2, e3⟩ := c_make (n := n) (x := x) (w := w) (I := I) (L := L) (Q := Q) (D := D) hok
      have hlk : LKC (s2 x 60 2 (nI (plO o))) I1 (some (plO o)) (roO o) := ⟨s2_e, fun j hj => by
        have hj : j < plO o := hj
        rw [e2.1 (j + 1) (by omega)]
        rfl, fun d d1 d2 => by rw [e2.2 d (by omega), roO_first h61 hok d1 d2]; rfl⟩
      refine ⟨n, s2 x 60 2 (nI (plO o)), I1, L, Q, D, ?_, hc.look pcc_ok (roO_ok h61 hok) hlk (fun a ha => s2_row ha) e3, fun a k1 k2 => ⟨s2_row (by omega), e3 a (by omega) (by omega)⟩⟩
      show f_X6_made (MM n x w I L Q D) 0 (nI o) = _
      have tail : ((gR (MM n x w I L Q D) 0 6 12).bind fun x1 => if oK (MM n x w I L Q D) x1 4 = true then (f_X4_make (MM n x w I L Q D) x1 (nI o)).bind fun h2 => (gR h2 0 6 12).bind fun x3 => (gI h2 x3 4 2).bind fun x4 => some ((x4, h2)) else none) = some (nI (plO o), MM n (s2 x 60 2 (nI (plO o))) w I1 L Q D) := by
        rw [r_0_12, ob_s, o_60, if_pos rfl, e1, ob_s, r_0_12, ob_s, g_60_2, ob_s, s2_e]
      unfold f_X6_made
      rw [erem, if_neg hn3, tail]
      by_cases z : o = 6
      · rw [if_pos (show nI o = 6 by rw [z]; rfl)]
      · rw [if_neg (show ¬ nI o = 6 from fun y => z ((nI_eq (b := 6) (by omega) (by decide)).mp y)), if_neg (show ¬ nI o < 8 from nI_nlt (b := 8) (by omega) (by omega)), if_neg (show ¬ (60 : Int32) < nI o from nI_nlt (a := 60) (by omega) (by decide))]
    · obtain ⟨I1, e1, e2, e3⟩ := m_make (n := n) (x := s2 x 64 0 0) (w := w) (I := I) (L := L) (Q := Q) (D := D) hok
      have hm1 : MI (s2 x 64 0 0) (u1 I 79 (I1 79)) S := (hm.thrown (v := 0)).cong rfl rfl rfl rfl (fun a ha => u1_n (by omega))
      refine ⟨s2 (s2 x 64 0 0) 64 28 (nI (plO o)), w, I1, ?_, hm1.look e2 (fun j hj => s2_ne (by omega)) (fun a ha => by
        by_cases z : a = 79
        · subst z; rw [u1_e]
        · rw [u1_n z, e3 a ha z]), SC.s2x.tr (fun a ha => ⟨s2_row (by omega), e3 a (by omega) (by omega)⟩)⟩
      show f_X7_made (MM n x w I L Q D) 64 (nI o) = _
      unfold f_X7_made
      rw [p_64_0, ob_s, erem, if_neg hn3, e1]
      by_cases z : o = 6
      · rw [if_pos (show nI o = 6 by rw [z]; rfl)]
      · rw [if_neg (show ¬ nI o = 6 from fun y => z ((nI_eq (b := 6) (by omega) (by decide)).mp y)), show f_X7_isIn (MM n (s2 x 64 0 0) w I L Q D) (nI o) 8 60 = _ from m_isIn (b := 8) (c := 60) (by omega) (by decide) (by decide), ob_s, if_neg (show ¬ bI (decide (8 ≤ o ∧ o ≤ 60)) = 0 by rw [bI_0]; simp; omega)]
  · refine both (fC := fun h => f_X6_made h 0 a1) (fM := fun h => f_X7_made h 64 a1) pcc_ok.sc (fun S => NO) (fun S => S) (fun n x w I L Q D S hc => ⟨n, x, I, L, Q, D, ?_, hc, SM.rf⟩) (fun n x w I L Q D S hb hm => ⟨s2 x 64 0 0, w, I, ?_, hm.thrown, SC.s2x⟩) hI
    · show f_X6_made (MM n x w I L Q D) 0 a1 = _
      unfold f_X6_made
      rw [liN]
      rcases neg_or a1 with hq | ⟨o, ho, rfl⟩
      · rw [if_neg (show ¬ a1 = 6 from neg_ne (k := 6) hq (by decide)), if_pos (show a1 < 8 from neg_lt (k := 8) hq (by decide))]
      · have hno : ¬ okO o = true := fun z => hd ⟨o, z, rfl⟩
        have hn : ¬ ((o = 6 ∨ (8 ≤ o ∧ o ≤ 60)) ∧ o % 4 ≠ 3) := fun z => hno (by
          unfold okO
          simp only [Bool.and_eq_true, Bool.or_eq_true, beq_iff_eq, decide_eq_true_eq, Bool.not_eq_true', beq_eq_false_iff_ne]
          exact z)
        have erem : nI o - nI o / (4 : Int32) * (4 : Int32) = nI (o % 4) := pk_rem (d := 4) ho (by decide) (by decide)
        rw [erem]
        by_cases z : o = 6
        · omega
        · rw [if_neg (show ¬ nI o = 6 from fun y => z ((nI_eq (b := 6) ho (by decide)).mp y))]
          by_cases z8 : o < 8
          · rw [if_pos (show nI o < 8 from nI_lt (b := 8) z8 (by decide))]
          · rw [if_neg (show ¬ nI o < 8 from nI_nlt (b := 8) (by omega) ho)]
            by_cases z60 : 60 < o
            · rw [if_pos (show (60 : Int32) < nI o from nI_lt (a := 60) z60 ho)]
            · rw [if_neg (show ¬ (60 : Int32) < nI o from nI_nlt (a := 60) (by omega) (by decide)), if_pos (show nI (o % 4) = 3 by rw [show o % 4 = 3 by omega]; rfl)]
    · show f_X7_made (MM n x w I L Q D) 64 a1 = _
      unfold f_X7_made
      rw [liN, p_64_0, ob_s]
      rcases neg_or a1 with hq | ⟨o, ho, rfl⟩
      · rw [if_neg (show ¬ a1 = 6 from neg_ne (k := 6) hq (by decide)), show f_X7_isIn (MM n (s2 x 64 0 0) w I L Q D) a1 8 60 = some 0 from m_isInN (b := 8) hq (by decide), ob_s, if_pos z00]
      · have hno : ¬ okO o = true := fun z => hd ⟨o, z, rfl⟩
        have hn : ¬ ((o = 6 ∨ (8 ≤ o ∧ o ≤ 60)) ∧ o % 4 ≠ 3) := fun z => hno (by
          unfold okO
          simp only [Bool.and_eq_true, Bool.or_eq_true, beq_iff_eq, decide_eq_true_eq, Bool.not_eq_true', beq_eq_false_iff_ne]
          exact z)
        have erem : nI o - nI o / (4 : Int32) * (4 : Int32) = nI (o % 4) := pk_rem (d := 4) ho (by decide) (by decide)
        rw [erem]
        by_cases z : o = 6
        · omega
        · rw [if_neg (show ¬ nI o = 6 from fun y => z ((nI_eq (b := 6) ho (by decide)).mp y)), show f_X7_isIn (MM n (s2 x 64 0 0) w I L Q D) (nI o) 8 60 = _ from m_isIn (b := 8) (c := 60) ho (by decide) (by decide), ob_s]
          by_cases zi : 8 ≤ o ∧ o ≤ 60
          · rw [if_neg (show ¬ bI (decide (8 ≤ o ∧ o ≤ 60)) = 0 by rw [bI_0]; simp; omega), if_pos (show nI (o % 4) = 3 by rw [show o % 4 = 3 by omega]; rfl)]
          · rw [if_pos (show bI (decide (8 ≤ o ∧ o ≤ 60)) = 0 by rw [bI_0]; exact decide_eq_false zi)]
