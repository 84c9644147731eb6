/-! undo, image, restore -/
theorem FrF_of {x I x' I' : Nat → Nat → Int32} {a b : Nat} {F : Fm} (hx : ∀ j, j < 3 → x' a j = x b j) (hI : ∀ d, d < 16 → I' (a + 1) d = I (b + 1) d) (h : FrF x I b F) : FrF x' I' a F := by
  have h : FrC x I b _ _ _ _ := h
  show FrC _ _ _ _ _ _ _
  exact ⟨by rw [hx 0 (by decide)]; exact h.1, by rw [hx 1 (by decide)]; exact h.2.1, by rw [hx 2 (by decide)]; exact h.2.2.1, fun d hd => by rw [hI d hd]; exact h.2.2.2 d hd⟩
def undoS (S : St) : St := (tL S, tB S, fL S, uF S (uN9 S - 1), uN9 S - 1, uF S, iM S, lN9 S, lR S)
theorem s_undo {PC : PCt} (hP : PCok PC) : S_undo (INVp PC) := by
  intro h hI
  refine both (fC := fun h => f_X6_undo h 0) (fM := fun h => f_X7_undo h 64) hP.sc (fun S => if uN9 S = 0 then NO else nI (uN9 S - 1)) (fun S => if uN9 S = 0 then S else undoS S) (fun n x w I L Q D S hc => ?_) (fun n x w I L Q D S hb hm => ?_) hI
  · obtain ⟨k1, k2, k3, k4, k5, ⟨e1, e2, t, e3, e4, e5⟩, k7, k8, k9⟩ := id hc
    unfold f_X6_undo
    rw [liN, r_0_6, Option.bind_some, g_10_2, Option.bind_some, e2]
    by_cases h0 : uN9 S = 0
    · rw [if_pos (show nI (uN9 S) = 0 by rw [h0]; rfl)]
      exact ⟨n, x, I, L, Q, D, by rw [if_pos h0], by rw [if_pos h0]; exact hc, SM.rf⟩
    · have h0' : ¬ nI (uN9 S) = 0 := nI_ne0 (by omega) (by omega)
      obtain ⟨hw, a, ha, hfr⟩ := e5 (uN9 S - 1) (by omega)
      have hslot : (t + 9 + (uN9 S - 1) - uN9 S) % 8 = t := by omega
      rw [hslot] at ha
      have hd := k2.ring e3 ha
      obtain ⟨x1, I1, c1, c2, c3⟩ := c_copy (n := n) (x := x) (w := w) (I := I) (L := L) (Q := Q) (D := D) (isF6 (D := D)) hd.F
      have hx1 : ∀ b, b ≠ 6 → x1 b = x b := fun b hb => by funext j; rw [c2, if_neg (fun q => hb q.1)]
      have hI1 : ∀ b, b ≠ 7 → I1 b = I b := fun b hb => by funext j; rw [c3, if_neg (fun q => hb q.1)]
      have hr : (nI t + (8 : Int32)) - (1 : Int32) - ((nI t + (8 : Int32)) - (1 : Int32)) / (8 : Int32) * (8 : Int32) = nI ((t + 7) % 8) := by
        rw [show (nI t + (8 : Int32)) - (1 : Int32) = nI (t + 7) by rw [li8, li1, nI_add, pk_sub (by omega)]; rfl]
        exact rem8 (by omega)
      have htk : f_X3_takeLatest (MM n x w I L Q D) 10 6 = some (MM n (s2 (s2 x1 10 1 (nI ((t + 7) % 8))) 10 2 (nI (uN9 S - 1))) w I1 L Q D) := by
        unfold f_X3_takeLatest
        rw [g_10_2, Option.bind_some, e2, if_neg h0', r_10_0, Option.bind_some, g_10_1, Option.bind_some, e4, q_at (a := 11) (len := 8) rfl e3 (by decide), Option.bind_some, ha, if_pos (show (some a).isSome = true from rfl), Option.bind_some, Option.bind_some, q_ref (a := 11) (len := 8) rfl e3 (by decide) ha, Option.bind_some, o_6, if_pos rfl, c1, Option.bind_some, g_10_1, Option.bind_some, hx1 10 (by decide), e4, hr, p_10_1, Option.bind_some, g_10_2, Option.bind_some, s2_ne (by decide), hx1 10 (by decide), e2, li1, pk_sub (by omega), p_10_2, Option.bind_some]
      have hrow : ∀ b, b ≠ 6 → b ≠ 10 → b ≠ 14 → s2 (s2 (s2 x1 10 1 (nI ((t + 7) % 8))) 10 2 (nI (uN9 S - 1))) 14 5 0 b = x b := fun b h1 h2 h3 => by rw [s2_row h3, s2_row h2, s2_row h2, hx1 b h1]
      rw [if_neg h0', Option.bind_some, r_0_4, Option.bind_some, o_10, if_pos rfl, htk, Option.bind_some, r_0_9, Option.bind_some, p_14_5, Option.bind_some, r_0_6, Option.bind_some, g_10_2, Option.bind_some, s2_ne (by decide), s2_e]
      refine ⟨n, _, I1, L, Q, D, by rw [if_neg h0], ?_, SM.of (fun b h1 h2 => hrow b (by omega) (by omega) (by omega)) (fun b h1 h2 => hI1 b (by omega))⟩
      rw [if_neg h0]
      refine ⟨k1, k2, ?_, ?_, ⟨hw, ?_⟩, ⟨by show uN9 S - 1 ≤ 8; omega, ?_, (t + 7) % 8, by omega, ?_, fun k hk => ?_⟩, fun k hk => ?_, ⟨k8.1, ?_⟩, hP.1 _ _ _ _ s2_e⟩
      · rw [hrow 0 (by decide) (by decide) (by decide), hI1 1 (by decide)]; exact k3
      · rw [hrow 0 (by decide) (by decide) (by decide)]; exact k4
      · refine FrF_of (b := a) (fun j hj => ?_) (fun e he => ?_) hfr
        · rw [s2_row (by decide), s2_row (by decide), s2_row (by decide), c2, if_pos ⟨rfl, hj⟩]
        · rw [c3, if_pos ⟨rfl, he⟩]
      · rw [s2_ne (by decide), s2_e]; rfl
      · rw [s2_ne (by decide), s2_ne (by decide), s2_e]
      · have hk : k < uN9 S - 1 := hk
        obtain ⟨z1, b, z2, z3⟩ := e5 k (by omega)
        have hbd := k2.ring (Nat.mod_lt _ (by decide)) z2
        refine ⟨z1, b, ?_, z3.same (hrow b (hbd.ne (by decide)) (hbd.ne (by decide)) (hbd.ne (by decide))) (hI1 _ (by have := hbd.1; omega))⟩
        show Q 11 (((t + 7) % 8 + 9 + k - (uN9 S - 1)) % 8) = some b
        rw [show ((t + 7) % 8 + 9 + k - (uN9 S - 1)) % 8 = (t + 9 + k - uN9 S) % 8 by omega]
        exact z2
      · have e := k7 k hk
        show (match iM S k with | none => _ | some G => _)
        cases hi : iM S k with
        | none => rw [hi] at e; exact e
        | some G =>
          rw [hi] at e
          obtain ⟨z1, b, z2, z3⟩ := e
          have hbd := k2.img hk z2
          exact ⟨z1, b, z2, z3.same (hrow b (hbd.ne (by decide)) (hbd.ne (by decide)) (hbd.ne (by decide))) (hI1 _ (by have := hbd.1; omega))⟩
      · have k8 := k8.2
        unfold LKC at *
        show s2 _ 14 5 0 60 2 = lI (lN9 S) ∧ _
        rw [hrow 60 (by decide) (by decide) (by decide), hI1 61 (by decide), hI1 62 (by decide)]
        exact k8
  · obtain ⟨k1, k2, k3, k4, k5, k6⟩ := id hm
    have h8 := hb.2.1
    unfold f_X7_undo
    rw [liN, p_64_0, Option.bind_some, g_64_19, Option.bind_some, s2_ne (by decide), k4.1]
    by_cases h0 : uN9 S = 0
    · rw [if_pos (show nI (uN9 S) = 0 by rw [h0]; rfl), if_pos h0, if_pos h0]
      exact ⟨_, w, I, rfl, hm.thrown, SC.s2x⟩
    · rw [if_neg (show ¬ nI (uN9 S) = 0 from nI_ne0 (by omega) (by omega)), Option.bind_some, li1, pk_sub (by omega), p_64_19, Option.bind_some, r_64_14, Option.bind_some, g_64_19, Option.bind_some, s2_e, r_64_11, Option.bind_some, li19, pk_mul, li0, m_copy (a := 69) (b := 66) (la := 152) (lb := 19) rfl rfl (by omega) (by decide) (by decide) (by decide) (by decide), Option.bind_some, g_64_19, Option.bind_some, s2_e, if_neg h0, if_neg h0]
      refine ⟨_, w, _, rfl, ⟨?_, ?_, ?_, ⟨s2_e, fun k hk => ?_⟩, fun k hk => ?_, ?_⟩, fun a ha => ⟨by rw [s2_row (by omega), s2_row (by omega)], u1_n (by omega)⟩⟩
      · rw [s2_ne (by decide), s2_ne (by decide), u1_n (by decide)]; exact k1
      · rw [s2_ne (by decide), s2_ne (by decide)]; exact k2
      · rw [FrO_iff]
        intro j hj
        rw [u1_e, fb_put_in (by omega) (by omega), show 0 + j - 0 = j by omega]
        exact FrO_iff.mp (k4.2 (uN9 S - 1) (by omega)) j hj
      · have := k4.2 k (by have : k < uN9 S - 1 := hk; omega)
        unfold FrO at *
        rw [u1_n (show (69 : Nat) ≠ 66 by decide)]
        exact this
      · have e := k5 k hk
        unfold FrO at *
        rw [u1_n (show (73 : Nat) ≠ 66 by decide), u1_n (show (68 : Nat) ≠ 66 by decide)]
        exact e
      · unfold LKM at *
        show s2 _ 64 19 _ 64 28 = lI (lN9 S) ∧ _
        rw [s2_ne (by decide), s2_ne (by decide), u1_n (show (78 : Nat) ≠ 66 by decide)]
        exact k6
/-! restore -/
def resS (S : St) (G : Fm) : St := (tL S, tB S, fL S, G, 0, uF S, iM S, lN9 S, lR S)
/-- a frame comes whole: the class's part -/
theorem c_becomes {PC : PCt} (hP : PCok PC) {n : Nat} {x : Nat → Nat → Int32} {w : Int64} {I : Nat → Nat → Int32} {L : Nat → Nat → Int64} {Q : Nat → Nat → Option Nat} {D : Nat → Bool} {S : St} {G : Fm} {a : Nat} (hc : CI PC n x I L Q D S) (ha : isF D a) (hfr : FrF x I a G) (hw : WFf G) : ∃ x' I', f_X6_becomes (MM n x w I L Q D) 0 a = some (MM n x' w I' L Q D) ∧ CI PC n x' I' L Q D (resS S G) ∧ SM x I x' I' := by
  obtain ⟨k1, k2, k3, k4, k5, ⟨e1, e2, t, e3, e4, e5⟩, k7, k8, k9⟩ := id hc
  obtain ⟨x1, I1, c1, c2, c3⟩ := c_copy (n := n) (x := x) (w := w) (I := I) (L := L) (Q := Q) (D := D) (isF6 (D := D)) ha
  have hx1 : ∀ b, b ≠ 6 → x1 b = x b := fun b hb => by funext j; rw [c2, if_neg (fun q => hb q.1)]
  have hI1 : ∀ b, b ≠ 7 → I1 b = I b := fun b hb => by funext j; rw [c3, if_neg (fun q => hb q.1)]
  have hrow : ∀ b, b ≠ 6 → b ≠ 10 → b ≠ 14 → s2 (s2 x1 10 2 0) 14 5 0 b = x b := fun b h1 h2 h3 => by rw [s2_row h3, s2_row h2, hx1 b h1]
  refine ⟨s2 (s2 x1 10 2 0) 14 5 0, I1, ?_, ⟨k1, k2, ?_, ?_, ⟨hw, ?_⟩, ⟨by show 0 ≤ 8; decide, ?_, t, e3, ?_, fun k hk => absurd hk (Nat.not_lt_zero k)⟩, fun k hk => ?_, ⟨k8.1, ?_⟩, hP.1 _ _ _ _ s2_e⟩, SM.of (fun b h1 h2 => hrow b (by omega) (by omega) (by omega)) (fun b h1 h2 => hI1 b (by omega))⟩
  · unfold f_X6_becomes
    rw [r_0_4, Option.bind_some, o_6, if_pos rfl, c1, Option.bind_some, r_0_6, Option.bind_some, p_10_2, Option.bind_some, r_0_9, Option.bind_some, p_14_5, Option.bind_some]
  · rw [hrow 0 (by decide) (by decide) (by decide), hI1 1 (by decide)]; exact k3
  · rw [hrow 0 (by decide) (by decide) (by decide)]; exact k4
  · refine FrF_of (b := a) (fun j hj => ?_) (fun e he => ?_) hfr
    · rw [s2_row (by decide), s2_row (by decide), c2, if_pos ⟨rfl, hj⟩]
    · rw [c3, if_pos ⟨rfl, he⟩]
  · rw [s2_ne (by decide), s2_e]; rfl
  · rw [s2_ne (by decide), s2_ne (by decide), hx1 10 (by decide)]; exact e4
  · have e := k7 k hk
    show (match iM S k with | none => _ | some G => _)
    cases hi : iM S k with
    | none => rw [hi] at e; exact e
    | some G =>
      rw [hi] at e
      obtain ⟨z1, b, z2, z3⟩ := e
      have hbd := k2.img hk z2
      exact ⟨z1, b, z2, z3.same (hrow b (hbd.ne (by decide)) (hbd.ne (by decide)) (hbd.ne (by decide))) (hI1 _ (by have := hbd.1; omega))⟩
  · have k8 := k8.2
    unfold LKC at *
    show s2 _ 14 5 0 60 2 = lI (lN9 S) ∧ _
    rw [hrow 60 (by decide) (by decide) (by decide), hI1 61 (by decide), hI1 62 (by decide)]
    exact k8
theorem neg_lt2 {q : Int32} (h : q < 0) : ¬ (2 : Int32) ≤ q := neg_nle (k := 2) h (by decide)
theorem m_kept {n : Nat} {x : Nat → Nat → Int32} {w : Int64} {I : Nat → Nat → Int32} {L : Nat → Nat → Int64} {Q : Nat → Nat → Option Nat} {D : Nat → Bool} {k : Nat} (hk : k < 2) : aI (MM n x w I L Q D) 3 73 (nI k) = some (I 73 k) := a_at (a := 73) (len := 2) rfl (Or.inr (Or.inr rfl)) hk (by decide)
theorem s_restore {PC : PCt} (hP : PCok PC) : S_restore (INVp PC) := by
  intro h hI a1
  rcases neg_or a1 with hq | ⟨k, hk, rfl⟩
  · refine both (fC := fun h => f_X6_restore h 0 a1) (fM := fun h => f_X7_restore h 64 a1) hP.sc (fun _ => 0) (fun S => S) (fun n x w I L Q D S hc => ⟨n, x, I, L, Q, D, ?_, hc, SM.rf⟩) (fun n x w I L Q D S hb hm => ⟨s2 x 64 0 0, w, I, ?_, hm.thrown, SC.s2x⟩) hI
    · unfold f_X6_restore; rw [if_pos hq]
    · unfold f_X7_restore
      rw [p_64_0, Option.bind_some, li0, m_isInN hq (by decide), Option.bind_some, if_pos (show (0 : Int32) = nI 0 from rfl)]
  · by_cases h2 : k < 2
    · refine both (fC := fun h => f_X6_restore h 0 (nI k)) (fM := fun h => f_X7_restore h 64 (nI k)) hP.sc (fun S => bI (iM S k).isSome) (fun S => match iM S k with | none => S | some G => resS S G) (fun n x w I L Q D S hc => ?_) (fun n x w I L Q D S hb hm => ?_) hI
      · have e := hc.2.2.2.2.2.2.1 k h2
        unfold f_X6_restore
        rw [if_neg (nI_pos hk), li2, if_neg (nI_ge h2 (by decide)), r_0_7, Option.bind_some, q_at (a := 12) (len := 2) rfl h2 (by decide), Option.bind_some]
        cases hi : iM S k with
        | none =>
          rw [hi] at e
          rw [e, if_neg (show ¬ (none : Option Nat).isSome = true by decide)]
          exact ⟨n, x, I, L, Q, D, rfl, hc, SM.rf⟩
        | some G =>
          rw [hi] at e
          obtain ⟨z1, b, z2, z3⟩ := e
          obtain ⟨x', I', g1, g2, g3⟩ := c_becomes hP (w := w) hc (hc.2.1.img h2 z2).F z3 z1
          rw [z2, if_pos (show (some b).isSome = true from rfl), Option.bind_some, q_ref (a := 12) (len := 2) rfl h2 (by decide) z2, Option.bind_some, o_0, if_pos rfl, g1, Option.bind_some]
          exact ⟨n, x', I', L, Q, D, rfl, g2, g3⟩
      · obtain ⟨k1, k2, k3, k4, k5, k6⟩ := id hm
        have e := k5 k h2
        have hin : ¬ bI (decide (0 ≤ k ∧ k ≤ 1)) = 0 := by rw [bI_0]; simp; omega
        unfold f_X7_restore
        rw [p_64_0, Option.bind_some, show f_X7_isIn (MM n (s2 x 64 0 0) w I L Q D) (nI k) 0 1 = _ from m_isIn (b := 0) (c := 1) hk (by decide) (by decide), Option.bind_some, if_neg hin, r_64_18, Option.bind_some, m_kept h2, Option.bind_some]
        cases hi : iM S k with
        | none =>
          rw [hi] at e
          rw [e, if_pos rfl]
          exact ⟨_, w, I, rfl, hm.thrown, SC.s2x⟩
        | some G =>
          rw [hi] at e
          rw [e.1, if_neg (show ¬ (1 : Int32) = 0 by decide), r_64_13, Option.bind_some, r_64_11, Option.bind_some, li19, pk_mul, li0, m_copy (a := 68) (b := 66) (la := 38) (lb := 19) rfl rfl (by omega) (by decide) (by decide) (by decide) (by decide), Option.bind_some, p_64_19, Option.bind_some]
          refine ⟨_, w, _, rfl, ⟨?_, ?_, ?_, ⟨s2_e, fun k hk => absurd hk (Nat.not_lt_zero k)⟩, fun k hk => ?_, ?_⟩, fun a ha => ⟨by rw [s2_row (by omega), s2_row (by omega)], u1_n (by omega)⟩⟩
          · rw [s2_ne (by decide), s2_ne (by decide), u1_n (by decide)]; exact k1
          · rw [s2_ne (by decide), s2_ne (by decide)]; exact k2
          · rw [FrO_iff]
            intro j hj
            rw [u1_e, fb_put_in (by omega) (by omega), show 0 + j - 0 = j by omega]
            exact FrO_iff.mp e.2 j hj
          · have e := k5 k hk
            unfold FrO at *
            rw [u1_n (show (73 : Nat) ≠ 66 by decide), u1_n (show (68 : Nat) ≠ 66 by decide)]
            exact e
          · unfold LKM at *
            show s2 _ 64 19 _ 64 28 = lI (lN9 S) ∧ _
            rw [s2_ne (by decide), s2_ne (by decide), u1_n (show (78 : Nat) ≠ 66 by decide)]
            exact k6
    · refine both (fC := fun h => f_X6_restore h 0 (nI k)) (fM := fun h => f_X7_restore h 64 (nI k)) hP.sc (fun _ => 0) (fun S => S) (fun n x w I L Q D S hc => ⟨n, x, I, L, Q, D, ?_, hc, SM.rf⟩) (fun n x w I L Q D S hb hm => ⟨s2 x 64 0 0, w, I, ?_, hm.thrown, SC.s2x⟩) hI
      · unfold f_X6_restore
        rw [if_neg (nI_pos hk), if_pos (show (2 : Int32) ≤ nI k from nI_le (a := 2) (by omega) hk)]
      · have hin : bI (decide (0 ≤ k ∧ k ≤ 1)) = 0 := by rw [bI_0]; simp; omega
        unfold f_X7_restore
        rw [p_64_0, Option.bind_some, show f_X7_isIn (MM n (s2 x 64 0 0) w I L Q D) (nI k) 0 1 = _ from m_isIn (b := 0) (c := 1) hk (by decide) (by decide), Option.bind_some, if_pos hin]
