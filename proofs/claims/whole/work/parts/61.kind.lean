/-! kind -/
def kindF (k o : Nat) : Fm := (if k = 1 ∨ k = 3 then 2 * o + 1 else 2 * o, if k = 1 then 2 ^ (2 * o - 1) else if k = 3 then 2 ^ o else 0, if k = 2 then (2 ^ o - 1) * 2 else 2 ^ o - 1, fun _ => 0)
def kOk (k o : Nat) : Bool := decide (k ≤ 3) && decide (1 ≤ o) && decide (o ≤ if k = 1 ∨ k = 3 then 8 else 9)
theorem kOk_small : ∀ k, k < 4 → ∀ o, o < 10 → kOk k o = true → (kindF k o).1 ≤ 18 ∧ (kindF k o).2.1 < 2 ^ (kindF k o).1 ∧ (kindF k o).2.2.1 < 2 ^ 15 ∧ pc (kindF k o).2.2.1 ≤ 9 := by decide +kernel
theorem kOk_lt {k o : Nat} (h : kOk k o = true) : k < 4 ∧ 1 ≤ o ∧ o < 10 := by
  unfold kOk at h
  simp only [Bool.and_eq_true, decide_eq_true_iff] at h
  split at h <;> omega
theorem kOk_wf {k o : Nat} (h : kOk k o = true) : WFf (kindF k o) := by
  obtain ⟨h1, h2, h3⟩ := kOk_lt h
  obtain ⟨g1, g2, g3, g4⟩ := kOk_small k h1 o h3 h
  exact ⟨g1, g2, g3, g4, fun d _ => Or.inl rfl, fun d e _ _ _ z _ => absurd rfl z⟩
theorem sh1s {m : Nat} (h : m < 2 ^ 20) : nI m <<< ((1 : Int32) &&& 31) = nI (m * 2) := pk_shlN _ 1 (by decide) (by omega)
section KIND
variable {n : Nat} {x : Nat → Nat → Int32} {w : Int64} {I : Nat → Nat → Int32} {L : Nat → Nat → Int64} {Q : Nat → Nat → Option Nat} {D : Nat → Bool} {a : Nat}
/-- the row is cleared, then three are set -/
theorem m_clear_l {k o : Nat} {R : Option Hp} (hs : shp[a]? = some (0, 19)) (hR : ∀ fu, f_X7_laysKind_2 (fu + 1) a (nI k) (nI o) (nI 19) (MM n x w (u1 I a (fa_fill (fun _ => 0) (I a) 19)) L Q D) = R) : ∀ (j u fu : Nat), u + j = 19 → j < fu → f_X7_laysKind_2 fu a (nI k) (nI o) (nI u) (MM n x w (u1 I a (fa_fill (fun _ => 0) (I a) u)) L Q D) = R := by
  intro j
  induction j with
  | zero =>
    intro u fu hu hfu
    obtain ⟨fu, rfl⟩ : ∃ n9, fu = n9 + 1 := ⟨fu - 1, by omega⟩
    obtain rfl : u = 19 := by omega
    exact hR fu
  | succ j ih =>
    intro u fu hu hfu
    obtain ⟨fu, rfl⟩ : ∃ n9, fu = n9 + 1 := ⟨fu - 1, by omega⟩
    have hge : ¬ (19 : Int32) ≤ nI u := nI_ge (b := 19) (by omega) (by decide)
    rw [f_X7_laysKind_2, if_neg hge, m_set hs (by omega), Option.bind_some, s2_u1, fa_fill_succ (fun _ => 0), li1, nI_add]
    exact ih (u + 1) fu (by omega) (by omega)
theorem m_laysKind {k o : Nat} (hs : shp[a]? = some (0, 19)) (hk : k < 4) (h1 : 1 ≤ o) (h9 : o < 10) : ∃ I', f_X7_laysKind (MM n x w I L Q D) a (nI k) (nI o) = some (MM n x w I' L Q D) ∧ (∀ b, b ≠ a → I' b = I b) ∧ FrO I' a 0 (kindF k o) := by
  have hR : ∀ fu, f_X7_laysKind_2 (fu + 1) a (nI k) (nI o) (nI 19) (MM n x w (u1 I a (fa_fill (fun _ => 0) (I a) 19)) L Q D) = some (MM n x w (s2 (s2 (s2 (u1 I a (fa_fill (fun _ => 0) (I a) 19)) a 0 (nI (kindF k o).1)) a 1 (nI (kindF k o).2.1)) a 2 (nI (kindF k o).2.2.1)) L Q D) := by
    intro fu
    have s0 : ∀ (I : Nat → Nat → Int32) (v : Int32), sI (MM n x w I L Q D) 0 a 0 v = some (MM n x w (s2 I a 0 v) L Q D) := fun I v => m_set (j := 0) hs (by decide)
    have s1 : ∀ (I : Nat → Nat → Int32) (v : Int32), sI (MM n x w I L Q D) 0 a 1 v = some (MM n x w (s2 I a 1 v) L Q D) := fun I v => m_set (j := 1) hs (by decide)
    have s2' : ∀ (I : Nat → Nat → Int32) (v : Int32), sI (MM n x w I L Q D) 0 a 2 v = some (MM n x w (s2 I a 2 v) L Q D) := fun I v => m_set (j := 2) hs (by decide)
    have e2o : (2 : Int32) * nI o = nI (2 * o) := by rw [li2, pk_mul]
    have e2o1 : (2 : Int32) * nI o + 1 = nI (2 * o + 1) := by rw [e2o, li1, nI_add]
    have esh : (1 : Int32) <<< (nI o &&& 31) = nI (2 ^ o) := shc o (by omega)
    have hpos := Nat.two_pow_pos o
    have hle : 2 ^ o ≤ 2 ^ 9 := Nat.pow_le_pow_right (by decide) (by omega)
    have epa : (1 : Int32) <<< (nI o &&& 31) - 1 = nI (2 ^ o - 1) := by rw [esh, li1, pk_sub (by omega)]
    have eh1 : (1 : Int32) <<< (((2 : Int32) * nI o - 1) &&& 31) = nI (2 ^ (2 * o - 1)) := by rw [e2o, show (1 : Int32) = nI 1 from rfl, pk_sub (by omega)]; exact sh1 _ (by omega)
    rw [f_X7_laysKind_2, if_pos (show (19 : Int32) ≤ nI 19 from nI_le (a := 19) (Nat.le_refl _) (by decide))]
    rcases (show k = 0 ∨ k = 1 ∨ k = 2 ∨ k = 3 by omega) with rfl | rfl | rfl | rfl
    · rw [if_neg (show ¬ nI 0 = 1 by decide), if_neg (show ¬ nI 0 = 3 by decide), s0, Option.bind_some, if_neg (show ¬ nI 0 = 1 by decide), if_neg (show ¬ nI 0 = 3 by decide), s1, Option.bind_some, if_neg (show ¬ nI 0 = 2 by decide), s2', Option.bind_some, e2o, epa]
      rfl
    · rw [if_pos (show nI 1 = 1 from rfl), s0, Option.bind_some, if_pos (show nI 1 = 1 from rfl), s1, Option.bind_some, if_neg (show ¬ nI 1 = 2 by decide), s2', Option.bind_some, e2o1, eh1, epa]
      rfl
    · rw [if_neg (show ¬ nI 2 = 1 by decide), if_neg (show ¬ nI 2 = 3 by decide), s0, Option.bind_some, if_neg (show ¬ nI 2 = 1 by decide), if_neg (show ¬ nI 2 = 3 by decide), s1, Option.bind_some, if_pos (show nI 2 = 2 from rfl), s2', Option.bind_some, e2o, epa, sh1s (by omega)]
      rfl
    · rw [if_neg (show ¬ nI 3 = 1 by decide), if_pos (show nI 3 = 3 from rfl), s0, Option.bind_some, if_neg (show ¬ nI 3 = 1 by decide), if_pos (show nI 3 = 3 from rfl), s1, Option.bind_some, if_neg (show ¬ nI 3 = 2 by decide), s2', Option.bind_some, e2o1, esh, li1, pk_sub (by omega)]
      rfl
  have h0 := m_clear_l (n := n) (x := x) (w := w) (I := I) (L := L) (Q := Q) (D := D) hs hR 19 0 4096 (by decide) (by decide)
  rw [fa_fill_0, u1_same] at h0
  refine ⟨_, h0, fun b hb => by rw [s2_row hb, s2_row hb, s2_row hb, u1_n hb], ?_⟩
  unfold FrO
  rw [s2_ne (by omega), s2_ne (by omega), s2_e, s2_ne (by omega), show (0 : Nat) + 1 = 1 from rfl, s2_e, show (0 : Nat) + 2 = 2 from rfl, s2_e]
  refine ⟨rfl, rfl, rfl, fun d hd => ?_⟩
  rw [s2_ne (by omega), s2_ne (by omega), s2_ne (by omega), u1_e, fa_fill_in (by omega)]
  rfl
end KIND
theorem c_kind_begin {n : Nat} {x : Nat → Nat → Int32} {w : Int64} {I : Nat → Nat → Int32} {L : Nat → Nat → Int64} {Q : Nat → Nat → Option Nat} {D : Nat → Bool} {k o : Nat} (hk : k < 4) (h1 : 1 ≤ o) (h9 : o < 10) {a : Nat} (hF : isF D a) {v0 v1 v2 : Int32} (e0 : v0 = nI (kindF k o).1) (e1 : v1 = nI (kindF k o).2.1) (e2 : v2 = nI (kindF k o).2.2.1) : ∃ x' I', f_X2_begin (MM n x w I L Q D) a v0 v1 v2 = some (MM n x' w I' L Q D) ∧ (∀ b, b ≠ a → x' b = x b) ∧ (∀ b, b ≠ a + 1 → I' b = I b) ∧ FrF x' I' a (kindF k o) := by
  subst e0
  subst e1
  subst e2
  obtain ⟨x', I', g1, g2, g3⟩ := c_begin (n := n) (x := x) (w := w) (I := I) (L := L) (Q := Q) (D := D) (v0 := nI (kindF k o).1) (v1 := nI (kindF k o).2.1) (v2 := nI (kindF k o).2.2.1) hF
  refine ⟨x', I', g1, fun b hb => by funext j; rw [g2, if_neg (fun q => hb q.1)], fun b hb => by funext j; rw [g3, if_neg (fun q => hb q.1)], ?_⟩
  show FrC _ _ _ _ _ _ _
  unfold FrC
  refine ⟨by rw [g2, if_pos ⟨rfl, by decide⟩]; rfl, by rw [g2, if_pos ⟨rfl, by decide⟩]; rfl, by rw [g2, if_pos ⟨rfl, by decide⟩]; rfl, fun d hd => ?_⟩
  rw [g3, if_pos ⟨rfl, hd⟩]
  rfl
theorem m_isIn3 {h : Hp} {k : Nat} (hk : k < 2 ^ 31) : f_X7_isIn h (nI k) 0 3 = some (bI (decide (0 ≤ k ∧ k ≤ 3))) := m_isIn (b := 0) (c := 3) hk (by decide) (by decide)
theorem s_kind {PC : PCt} (hP : PCok PC) : S_kind (INVp PC) := by
  intro h hI a1 a2
  have refuse : ∀ (_ : ∀ n x w I L Q D, f_X6_kind (MM n x w I L Q D) 0 a1 a2 = some (NO, (MM n x w I L Q D))) (_ : ∀ n x w I L Q D, f_X7_kind (MM n x w I L Q D) 64 a1 a2 = some (NO, MM n (s2 x 64 0 0) w I L Q D)), ∃ r h1 h2, (oK h 0 6 = true ∧ f_X6_kind h 0 a1 a2 = some (r, h1)) ∧ (oK h1 64 7 = true ∧ f_X7_kind h1 64 a1 a2 = some (r, h2)) ∧ INVp PC h2 := fun r1 r2 =>
    both (fC := fun h => f_X6_kind h 0 a1 a2) (fM := fun h => f_X7_kind h 64 a1 a2) hP.sc (fun _ => NO) (fun S => S) (fun n x w I L Q D S hc => ⟨n, x, I, L, Q, D, r1 n x w I L Q D, hc, SM.rf⟩) (fun n x w I L Q D S hb hm => ⟨s2 x 64 0 0, w, I, r2 n x w I L Q D, hm.thrown, SC.s2x⟩) hI
  have n10 : ¬ (1 : Int32) = 0 := by decide
  rcases neg_or a1 with hq | ⟨k, hk, rfl⟩
  · refine refuse (fun n x w I L Q D => ?_) (fun n x w I L Q D => ?_)
    · unfold f_X6_kind; rw [liN, if_pos hq]
    · unfold f_X7_kind; rw [liN, p_64_0, Option.bind_some, show f_X7_isIn (MM n (s2 x 64 0 0) w I L Q D) a1 0 3 = some 0 from m_isInN (b := 0) hq (by decide), Option.bind_some, if_pos rfl]
  · have k0 : ¬ nI k < 0 := nI_pos hk
    by_cases h3 : 3 < k
    · refine refuse (fun n x w I L Q D => ?_) (fun n x w I L Q D => ?_)
      · unfold f_X6_kind; rw [liN, if_neg k0, if_pos (show (3 : Int32) < nI k from nI_lt (a := 3) h3 hk)]
      · unfold f_X7_kind; rw [liN, p_64_0, Option.bind_some, m_isIn3 hk, Option.bind_some, if_pos (show bI (decide (0 ≤ k ∧ k ≤ 3)) = 0 by rw [bI_0]; simp; omega)]
    · have k3 : ¬ (3 : Int32) < nI k := nI_nlt (b := k) (a := 3) (by omega) (by decide)
      have kin : ¬ bI (decide (0 ≤ k ∧ k ≤ 3)) = 0 := by rw [bI_0]; simp; omega
      have hodd : nI k - nI k / (2 : Int32) * (2 : Int32) = nI (k % 2) := by rw [li2]; exact pk_rem hk (by decide) (by decide)
      rcases neg_or a2 with hq | ⟨o, ho, rfl⟩
      · have hq1 : a2 < 1 := neg_lt (k := 1) hq (by decide)
        refine refuse (fun n x w I L Q D => ?_) (fun n x w I L Q D => ?_)
        · unfold f_X6_kind; rw [liN, if_neg k0, if_neg k3, if_pos hq1]
        · unfold f_X7_kind
          rw [liN, p_64_0, Option.bind_some, m_isIn3 hk, Option.bind_some, if_neg kin]
          have r8 : f_X7_isIn (MM n (s2 x 64 0 0) w I L Q D) a2 1 8 = some 0 := m_isInN (b := 1) hq (by decide)
          have r9 : f_X7_isIn (MM n (s2 x 64 0 0) w I L Q D) a2 1 9 = some 0 := m_isInN (b := 1) hq (by decide)
          by_cases z : nI k - nI k / (2 : Int32) * (2 : Int32) = 1
          · rw [if_pos z, r8, Option.bind_some, if_pos rfl]
          · rw [if_neg z, r9, Option.bind_some, if_pos rfl]
      · have hmost : ∀ h, f_X6_mostOrder h (nI k) = some (nI (if k = 1 ∨ k = 3 then 8 else 9)) := by
          intro h
          unfold f_X6_mostOrder
          rcases (show k = 0 ∨ k = 1 ∨ k = 2 ∨ k = 3 by omega) with rfl | rfl | rfl | rfl <;> rfl
        by_cases hok : kOk k o = true
        · obtain ⟨hk4, ho1, ho9⟩ := kOk_lt hok
          have hle : o ≤ if k = 1 ∨ k = 3 then 8 else 9 := by
            unfold kOk at hok
            simp only [Bool.and_eq_true, decide_eq_true_iff] at hok
            exact hok.2
          have hk18 := (kOk_small k hk4 o ho9 hok).1
          refine both (fC := fun h => f_X6_kind h 0 (nI k) (nI o)) (fM := fun h => f_X7_kind h 64 (nI k) (nI o)) hP.sc (fun _ => nI (kindF k o).1) (fun S => actS S (kindF k o)) (fun n x w I L Q D S hc => ?_) (fun n x w I L Q D S hb hm => ?_) hI
          · obtain ⟨x1, I1, e1, e2, e3, e4, e5⟩ := c_before hP (w := w) hc
            have goal : ∀ (v0 v1 v2 : Int32), v0 = nI (kindF k o).1 → v1 = nI (kindF k o).2.1 → v2 = nI (kindF k o).2.2.1 → ∃ n' x' I' L' Q' D', ((f_X2_begin (MM n x1 w I1 L Q D) 6 v0 v1 v2).bind fun h7 => if oK h7 0 6 = true then (f_X6_acted h7 0).bind fun h8 => (gR h8 0 6 4).bind fun x9 => (gI h8 x9 2 0).bind fun x10 => some ((x10, h8)) else none) = some (nI (kindF k o).1, MM n' x' w I' L' Q' D') ∧ CI PC n' x' I' L' Q' D' (actS S (kindF k o)) ∧ SM x I x' I' := by
              intro v0 v1 v2 q0 q1 q2
              obtain ⟨x2, I2, b1, b2, b3, b4⟩ := c_kind_begin (n := n) (x := x1) (w := w) (I := I1) (L := L) (Q := Q) (D := D) hk4 ho1 ho9 (isF6 (D := D)) q0 q1 q2
              obtain ⟨n', x', I', Q', D', g1, g2, g3, g4⟩ := c_acted hP (w := w) (x1 := x2) (I1 := I2) (F := kindF k o) hc (fun a z1 z2 => by rw [b2 a z1, e3 a z2]) (fun a z1 z2 => by rw [b3 a z1, e4 a z2]) (e5.same (b2 8 (by decide)) (b3 9 (by decide))) b4 (kOk_wf hok)
              refine ⟨n', x', I', L, Q', D', ?_, g2, g3⟩
              rw [b1, Option.bind_some, o_0, if_pos rfl, g1, Option.bind_some, r_0_4, Option.bind_some, g_6_0, Option.bind_some, g4]
              have : FrC x2 I2 6 _ _ _ _ := b4
              rw [this.1]
            have e2o : (2 : Int32) * nI o = nI (2 * o) := by rw [li2, pk_mul]
            have e2o1 : (2 : Int32) * nI o + 1 = nI (2 * o + 1) := by rw [e2o, li1, nI_add]
            have hpos := Nat.two_pow_pos o
            have hle9 : 2 ^ o ≤ 2 ^ 9 := Nat.pow_le_pow_right (by decide) (by omega)
            have epa : (1 : Int32) <<< (nI o &&& 31) - 1 = nI (2 ^ o - 1) := by rw [shc o (by omega), li1, pk_sub (by omega)]
            unfold f_X6_kind
            rw [liN, if_neg k0, if_neg k3, if_neg (show ¬ nI o < 1 from nI_nlt (b := 1) ho1 ho), hmost, Option.bind_some, if_pos (nI_le hle (by split <;> decide)), r_0_5, Option.bind_some, r_0_4, Option.bind_some, o_8, if_pos rfl, e1, Option.bind_some]
            simp only [r_0_4, ob_s, o_6, if_true]
            rcases (show k = 0 ∨ k = 1 ∨ k = 2 ∨ k = 3 by omega) with rfl | rfl | rfl | rfl
            · rw [if_neg (show ¬ nI 0 = 1 by decide), if_neg (show ¬ nI 0 = 2 by decide), if_neg (show ¬ nI 0 = 3 by decide)]
              exact goal _ _ _ e2o rfl epa
            · rw [if_pos (show nI 1 = 1 from rfl), e2o, bitN (by omega) (by omega), Option.bind_some]
              exact goal _ _ _ (by rw [li1, nI_add]; rfl) rfl epa
            · rw [if_neg (show ¬ nI 2 = 1 by decide), if_pos (show nI 2 = 2 from rfl)]
              exact goal _ _ _ e2o rfl (by rw [epa, sh1s (by omega)]; rfl)
            · rw [if_neg (show ¬ nI 3 = 1 by decide), if_neg (show ¬ nI 3 = 2 by decide), if_pos (show nI 3 = 3 from rfl), show nI o + 1 = nI (o + 1) by rw [li1, nI_add], bitN (by omega) (by omega), Option.bind_some]
              exact goal _ _ _ e2o1 rfl epa
          · have hm0 : MI (s2 x 64 0 0) I S := hm.thrown
            obtain ⟨I1, g1, g2, g3⟩ := m_snap (n := n) (w := w) (L := L) (Q := Q) (D := D) hb.2.1 hm0.2.2.2.1.1 hm0.2.2.2.1.2 hm0.2.2.1
            obtain ⟨I2, f1, f2, f3⟩ := m_laysKind (n := n) (x := s2 (s2 x 64 0 0) 64 19 (nI (addN (uN9 S)))) (w := w) (I := I1) (L := L) (Q := Q) (D := D) (a := 66) rfl hk4 ho1 ho9
            have tail : ((f_X7_snap (MM n (s2 x 64 0 0) w I L Q D) 64).bind fun h10 => (gR h10 64 7 11).bind fun x11 => (f_X7_laysKind h10 x11 (nI k) (nI o)).bind fun h12 => (gR h12 64 7 11).bind fun x13 => (aI h12 0 x13 (0 : Int32)).bind fun x14 => some ((x14, h12))) = some (nI (kindF k o).1, MM n (s2 (s2 x 64 0 0) 64 19 (nI (addN (uN9 S)))) w I2 L Q D) := by
              rw [g1, Option.bind_some, r_64_11, Option.bind_some, f1, Option.bind_some, r_64_11, Option.bind_some, show aI (MM n (s2 (s2 x 64 0 0) 64 19 (nI (addN (uN9 S)))) w I2 L Q D) 0 66 0 = some (I2 66 0) from m_at (j := 0) rfl (by decide), Option.bind_some, f3.1]
            refine ⟨_, w, I2, ?_, hm0.act (I1 := I1) g2 g3 f2 f3, fun a ha => ⟨by rw [s2_row (by omega), s2_row (by omega)], by rw [f2 a (by omega), g2 a (by omega)]⟩⟩
            unfold f_X7_kind
            rw [liN, p_64_0, Option.bind_some, m_isIn3 hk, Option.bind_some, if_neg kin, hodd]
            by_cases z : k = 1 ∨ k = 3
            · have hz : nI (k % 2) = 1 := by rw [show k % 2 = 1 by omega]; rfl
              rw [if_pos z] at hle
              rw [if_pos hz, show f_X7_isIn (MM n (s2 x 64 0 0) w I L Q D) (nI o) 1 8 = _ from m_isIn (b := 1) (c := 8) ho (by decide) (by decide), Option.bind_some, if_neg (show ¬ bI (decide (1 ≤ o ∧ o ≤ 8)) = 0 by rw [bI_0]; simp; omega), o_64, if_pos rfl]
              exact tail
            · have hz : ¬ nI (k % 2) = 1 := by rw [show k % 2 = 0 by omega]; decide
              rw [if_neg z] at hle
              rw [if_neg hz, show f_X7_isIn (MM n (s2 x 64 0 0) w I L Q D) (nI o) 1 9 = _ from m_isIn (b := 1) (c := 9) ho (by decide) (by decide), Option.bind_some, if_neg (show ¬ bI (decide (1 ≤ o ∧ o ≤ 9)) = 0 by rw [bI_0]; simp; omega), o_64, if_pos rfl]
              exact tail
        · have hno : o < 1 ∨ (if k = 1 ∨ k = 3 then 8 else 9) < o := by
            unfold kOk at hok
            simp only [Bool.and_eq_true, decide_eq_true_iff] at hok
            rcases Nat.lt_or_ge o 1 with z | z
            · exact Or.inl z
            · exact Or.inr (Nat.lt_of_not_le fun y => hok ⟨⟨by omega, z⟩, y⟩)
          refine refuse (fun n x w I L Q D => ?_) (fun n x w I L Q D => ?_)
          · unfold f_X6_kind
            rw [liN, if_neg k0, if_neg k3]
            by_cases z : o < 1
            · rw [if_pos (show nI o < 1 from nI_lt (b := 1) z (by decide))]
            · rw [if_neg (show ¬ nI o < 1 from nI_nlt (b := 1) (by omega) ho), hmost, Option.bind_some, if_neg (nI_ge (hno.resolve_left z) ho)]
          · unfold f_X7_kind
            rw [liN, p_64_0, Option.bind_some, m_isIn3 hk, Option.bind_some, if_neg kin, hodd]
            by_cases z : k = 1 ∨ k = 3
            · have hz : nI (k % 2) = 1 := by rw [show k % 2 = 1 by omega]; rfl
              rw [if_pos z] at hno
              rw [if_pos hz, show f_X7_isIn (MM n (s2 x 64 0 0) w I L Q D) (nI o) 1 8 = _ from m_isIn (b := 1) (c := 8) ho (by decide) (by decide), Option.bind_some, if_pos (show bI (decide (1 ≤ o ∧ o ≤ 8)) = 0 by rw [bI_0]; simp; omega)]
            · have hz : ¬ nI (k % 2) = 1 := by rw [show k % 2 = 0 by omega]; decide
              rw [if_neg z] at hno
              rw [if_neg hz, show f_X7_isIn (MM n (s2 x 64 0 0) w I L Q D) (nI o) 1 9 = _ from m_isIn (b := 1) (c := 9) ho (by decide) (by decide), Option.bind_some, if_pos (show bI (decide (1 ≤ o ∧ o ≤ 9)) = 0 by rw [bI_0]; simp; omega)]
