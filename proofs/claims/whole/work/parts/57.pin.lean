/-! pin; undo, image, restore -/
theorem c_pin_frame {x1 I1 : Nat → Nat → Int32} {F : Fm} {d p : Nat} (h6 : FrC x1 I1 6 F.1 F.2.1 F.2.2.1 F.2.2.2) : FrF x1 (s2 I1 7 d (nI p)) 6 (F.1, F.2.1, F.2.2.1, updN F.2.2.2 d p) := by
  show FrC _ _ _ _ _ _ _
  unfold FrC
  refine ⟨h6.1, h6.2.1, h6.2.2.1, fun e he => ?_⟩
  rw [s2_at]
  show _ = nI (updN F.2.2.2 d p e)
  by_cases z : e = d
  · rw [if_pos ⟨rfl, z⟩, z, updN_e]
  · rw [if_neg (fun y => z y.2), updN_n z]
    exact h6.2.2.2 e he
theorem s_pin {PC : PCt} (hP : PCok PC) : S_pin (INVp PC) := by
  intro h hI a1 a2
  rcases neg_or a1 with hq | ⟨d, hd, rfl⟩
  · refine both (fC := fun h => f_X6_pin h 0 a1 a2) (fM := fun h => f_X7_pin h 64 a1 a2) hP.sc (fun _ => NO) (fun S => S) (fun n x w I L Q D S hc => ?_) (fun n x w I L Q D S hb hm => ⟨s2 x 64 0 0, w, I, ?_, hm.thrown, SC.s2x⟩) hI
    · obtain ⟨x1, I1, e1, e2, e3, e4, e5⟩ := c_before hP (w := w) hc
      refine ⟨n, x1, I1, L, Q, D, ?_, e2, SM.of (fun a h1 h2 => e3 a (by omega)) (fun a h1 h2 => e4 a (by omega))⟩
      unfold f_X6_pin
      rw [r_0_5, Option.bind_some, r_0_4, Option.bind_some, o_8, if_pos rfl, e1, Option.bind_some, r_0_4, Option.bind_some, o_6, if_pos rfl, c_setPinM isF6 hq, Option.bind_some, if_neg (show ¬ NO = 0 by decide)]
    · unfold f_X7_pin
      rw [liN, p_64_0, Option.bind_some, r_64_11, Option.bind_some, m_isToldN hq, Option.bind_some, if_pos rfl]
  · rcases neg_or a2 with hq | ⟨p, hp, rfl⟩
    · refine both (fC := fun h => f_X6_pin h 0 (nI d) a2) (fM := fun h => f_X7_pin h 64 (nI d) a2) hP.sc (fun _ => NO) (fun S => S) (fun n x w I L Q D S hc => ?_) (fun n x w I L Q D S hb hm => ⟨s2 x 64 0 0, w, I, ?_, hm.thrown, SC.s2x⟩) hI
      · obtain ⟨x1, I1, e1, e2, e3, e4, e5⟩ := c_before hP (w := w) hc
        have h6 : FrC x1 I1 6 (fR S).1 (fR S).2.1 (fR S).2.2.1 (fR S).2.2.2 := e2.2.2.2.2.1.2
        refine ⟨n, x1, I1, L, Q, D, ?_, e2, SM.of (fun a h1 h2 => e3 a (by omega)) (fun a h1 h2 => e4 a (by omega))⟩
        unfold f_X6_pin
        rw [r_0_5, Option.bind_some, r_0_4, Option.bind_some, o_8, if_pos rfl, e1, Option.bind_some, r_0_4, Option.bind_some, o_6, if_pos rfl, c_setPinN isF6 h6 hd hq, Option.bind_some, if_neg (show ¬ NO = 0 by decide)]
      · have hx : FrM0 I 66 (fR S).1 (fR S).2.1 (fR S).2.2.1 (fR S).2.2.2 := hm.2.2.1.m0
        have hw : WF (fR S).1 (fR S).2.1 (fR S).2.2.1 (fR S).2.2.2 := hb.1
        have hs : shp[66]? = some (0, 19) := rfl
        unfold f_X7_pin
        rw [liN, p_64_0, Option.bind_some, r_64_11, Option.bind_some, m_isTold hs hx hw.2.2.1 hd, Option.bind_some]
        by_cases q : bI (decide (1 ≤ d ∧ d ≤ 15 ∧ (fR S).2.2.1.testBit (d - 1) = true)) = 0
        · rw [if_pos q]
        · have hq0 : ¬ a2 = 0 := neg_ne (k := 0) hq (by decide)
          rw [if_neg q, if_neg hq0, Option.bind_some, li0, m_at hs (by decide), Option.bind_some, li1, m_isInN hq (by decide), Option.bind_some, if_pos (show (0 : Int32) = nI 0 from rfl)]
    · refine both (fC := fun h => f_X6_pin h 0 (nI d) (nI p)) (fM := fun h => f_X7_pin h 64 (nI d) (nI p)) hP.sc (fun S => pinI (pinA (fR S).1 (fR S).2.1 (fR S).2.2.1 (fR S).2.2.2 d p)) (fun S => if pinA (fR S).1 (fR S).2.1 (fR S).2.2.1 (fR S).2.2.2 d p = 0 then actS S ((fR S).1, (fR S).2.1, (fR S).2.2.1, updN (fR S).2.2.2 d p) else S) (fun n x w I L Q D S hc => ?_) (fun n x w I L Q D S hb hm => ?_) hI
      · obtain ⟨x1, I1, e1, e2, e3, e4, e5⟩ := c_before hP (w := w) hc
        have hw : WF (fR S).1 (fR S).2.1 (fR S).2.2.1 (fR S).2.2.2 := hc.2.2.2.2.1.1
        have h6 : FrC x1 I1 6 (fR S).1 (fR S).2.1 (fR S).2.2.1 (fR S).2.2.2 := e2.2.2.2.2.1.2
        have hset := c_setPin (n := n) (w := w) (L := L) (Q := Q) (D := D) isF6 h6 hw hd hp
        unfold f_X6_pin
        rw [r_0_5, Option.bind_some, r_0_4, Option.bind_some, o_8, if_pos rfl, e1, Option.bind_some, r_0_4, Option.bind_some, o_6, if_pos rfl, hset, Option.bind_some]
        rcases pinA_lt (c := (fR S).1) (ho := (fR S).2.1) (pa := (fR S).2.2.1) (f := (fR S).2.2.2) (d := d) (p := p) with e | e | e | e
        · obtain ⟨q1, q2, q3⟩ := pinA_inv0 e
          rw [e]
          obtain ⟨n', x', I', Q', D', g1, g2, g3, g4⟩ := c_acted hP (w := w) (x1 := x1) (I1 := s2 I1 7 d (nI p)) (F := ((fR S).1, (fR S).2.1, (fR S).2.2.1, updN (fR S).2.2.2 d p)) hc (fun a h1 h2 => e3 a h2) (fun a h1 h2 => by rw [s2_row h1, e4 a h2]) (e5.same rfl (s2_row (by decide))) (c_pin_frame h6) (hw.pin q1 q3)
          refine ⟨n', x', I', L, Q', D', ?_, by rw [if_pos rfl]; exact g2, g3⟩
          show (if (0 : Int32) = 0 then (if oK (MM n x1 w (s2 I1 7 d (nI p)) L Q D) 0 6 = true then _ else _) else _) = _
          rw [if_pos rfl, o_0, if_pos rfl]
          show (f_X6_acted (MM n x1 w (s2 I1 7 d (nI p)) L Q D) 0).bind _ = _
          rw [g1, Option.bind_some]
          rfl
        · rw [e]
          refine ⟨n, x1, I1, L, Q, D, ?_, by rw [if_neg (by decide)]; exact e2, SM.of (fun a h1 h2 => e3 a (by omega)) (fun a h1 h2 => e4 a (by omega))⟩
          show (if (1 : Int32) = 0 then _ else _) = _
          rw [if_neg (by decide)]
          rfl
        · rw [e]
          refine ⟨n, x1, I1, L, Q, D, ?_, by rw [if_neg (by decide)]; exact e2, SM.of (fun a h1 h2 => e3 a (by omega)) (fun a h1 h2 => e4 a (by omega))⟩
          show (if (2 : Int32) = 0 then _ else _) = _
          rw [if_neg (by decide)]
          rfl
        · rw [e]
          refine ⟨n, x1, I1, L, Q, D, ?_, by rw [if_neg (by decide)]; exact e2, SM.of (fun a h1 h2 => e3 a (by omega)) (fun a h1 h2 => e4 a (by omega))⟩
          show (if NO = 0 then _ else _) = _
          rw [if_neg (by decide)]
          rfl
      · have hx : FrM0 I 66 (fR S).1 (fR S).2.1 (fR S).2.2.1 (fR S).2.2.2 := hm.2.2.1.m0
        have hw : WF (fR S).1 (fR S).2.1 (fR S).2.2.1 (fR S).2.2.2 := hb.1
        have hc18 := hw.1
        have hs : shp[66]? = some (0, 19) := rfl
        have hm0 : MI (s2 x 64 0 0) I S := hm.thrown
        obtain ⟨I1, g1, g2, g3⟩ := m_snap (n := n) (w := w) (L := L) (Q := Q) (D := D) hb.2.1 hm0.2.2.2.1.1 hm0.2.2.2.1.2 hm0.2.2.1
        have h66 : I1 66 = I 66 := g2 66 (by decide)
        have hdone : ∀ (_ : d ≤ 15) (_ : pinA (fR S).1 (fR S).2.1 (fR S).2.2.1 (fR S).2.2.2 d p = 0), ∃ x' w' I', (some (0, MM n (s2 (s2 x 64 0 0) 64 19 (nI (addN (uN9 S)))) w (s2 I1 66 (3 + d) (nI p)) L Q D) : Option (Int32 × Hp)) = some (pinI (pinA (fR S).1 (fR S).2.1 (fR S).2.2.1 (fR S).2.2.2 d p), MM n x' w' I' L Q D) ∧ MI x' I' (if pinA (fR S).1 (fR S).2.1 (fR S).2.2.1 (fR S).2.2.2 d p = 0 then actS S ((fR S).1, (fR S).2.1, (fR S).2.2.1, updN (fR S).2.2.2 d p) else S) ∧ SC x I x' I' := by
          intro _ e
          rw [e, if_pos rfl]
          exact ⟨_, w, _, rfl, hm0.act (I1 := I1) g2 g3 (fun a ha => s2_row ha) (FrO_pin hm.2.2.1 h66), fun a ha => ⟨by rw [s2_row (by omega), s2_row (by omega)], by rw [s2_row (by omega), g2 a (by omega)]⟩⟩
        have hnot : ∀ (k : Nat) (_ : k ≠ 0) (_ : pinA (fR S).1 (fR S).2.1 (fR S).2.2.1 (fR S).2.2.2 d p = k), ∃ x' w' I', (some (pinI k, MM n (s2 x 64 0 0) w I L Q D) : Option (Int32 × Hp)) = some (pinI (pinA (fR S).1 (fR S).2.1 (fR S).2.2.1 (fR S).2.2.2 d p), MM n x' w' I' L Q D) ∧ MI x' I' (if pinA (fR S).1 (fR S).2.1 (fR S).2.2.1 (fR S).2.2.2 d p = 0 then actS S ((fR S).1, (fR S).2.1, (fR S).2.2.1, updN (fR S).2.2.2 d p) else S) ∧ SC x I x' I' := by
          intro k hk e
          rw [e, if_neg hk]
          exact ⟨_, w, I, rfl, hm0, SC.s2x⟩
        unfold f_X7_pin
        rw [liN, p_64_0, Option.bind_some, r_64_11, Option.bind_some, m_isTold hs hx hw.2.2.1 hd, Option.bind_some]
        by_cases q : 1 ≤ d ∧ d ≤ 15 ∧ (fR S).2.2.1.testBit (d - 1) = true
        · have q' : ¬ bI (decide (1 ≤ d ∧ d ≤ 15 ∧ (fR S).2.2.1.testBit (d - 1) = true)) = 0 := by rw [bI_0]; simpa using q
          have hfd := hw.f18 (d := d) (by omega)
          rw [if_neg q']
          by_cases hp0 : p = 0
          · subst hp0
            have hok : pinOk (fR S).1 (fR S).2.2.1 d 0 := ⟨q, Or.inl rfl⟩
            rw [if_pos (show nI 0 = 0 from rfl), Option.bind_some, li3, nI_add, m_at hs (by omega), Option.bind_some, hx.2.2.2 d (by omega)]
            by_cases h2 : (fR S).2.2.2 d = 0
            · rw [if_pos (show nI ((fR S).2.2.2 d) = nI 0 by rw [h2])]
              exact hnot 1 (by decide) (pinA_1 hok h2)
            · rw [if_neg (show ¬ nI ((fR S).2.2.2 d) = nI 0 from fun e => h2 ((nI_eq (by omega) (by decide)).mp e)), if_pos (show nI 0 ≤ 0 by decide), o_64, if_pos rfl, g1, Option.bind_some, r_64_11, Option.bind_some, m_set hs (by omega), Option.bind_some]
              exact hdone q.2.1 (pinA_0 hok h2 (Or.inl rfl))
          · have hp0' : ¬ nI p = 0 := nI_ne0 (by omega) hp
            rw [if_neg hp0', Option.bind_some, li0, m_at hs (by decide), Option.bind_some, hx.1, li1, m_isInS hp hc18 q.2.1, Option.bind_some]
            by_cases h3 : 1 ≤ p ∧ p + d ≤ (fR S).1
            · have h3' : ¬ bI (decide (1 ≤ p ∧ p + d ≤ (fR S).1)) = nI 0 := by rw [← li0, bI_0]; simpa using h3
              have hok : pinOk (fR S).1 (fR S).2.2.1 d p := ⟨q, Or.inr h3⟩
              rw [if_neg h3', Option.bind_some, li3, nI_add, m_at hs (by omega), Option.bind_some, hx.2.2.2 d (by omega)]
              by_cases h5 : (fR S).2.2.2 d = p
              · rw [if_pos (show nI ((fR S).2.2.2 d) = nI p by rw [h5])]
                exact hnot 1 (by decide) (pinA_1 hok h5)
              · have h5' : ¬ nI ((fR S).2.2.2 d) = nI p := fun e => h5 ((nI_eq (by omega) hp).mp e)
                have hmp := m_mayPin (n := n) (x := s2 x 64 0 (nI 0)) (w := w) (L := L) (Q := Q) (D := D) hs hx hw q.2.1 h3.1 (by omega)
                rw [if_neg h5', if_neg (show ¬ nI p ≤ nI 0 from nI_nle (by omega) hp), Option.bind_some]
                by_cases h7 : pinFree (fR S).2.1 (fR S).2.2.2 d p
                · rw [hmp.1 h7, Option.bind_some, if_neg (show ¬ (1 : Int32) = nI 0 by decide), o_64, if_pos rfl]
                  show ∃ x' w' I', (f_X7_snap (MM n (s2 x 64 0 0) w I L Q D) 64).bind _ = _ ∧ _
                  rw [g1, Option.bind_some, r_64_11, Option.bind_some, m_set hs (by omega), Option.bind_some]
                  exact hdone q.2.1 (pinA_0 hok h5 (Or.inr h7))
                · rw [hmp.2 h7, Option.bind_some, if_pos (show (0 : Int32) = nI 0 from rfl)]
                  exact hnot 2 (by decide) (pinA_2 hok h5 hp0 h7)
            · rw [if_pos (show bI (decide (1 ≤ p ∧ p + d ≤ (fR S).1)) = nI 0 by rw [← li0, bI_0]; simpa using h3)]
              exact hnot 3 (by decide) (pinA_3 (fun e => by rcases e.2 with e | e; exact hp0 e; exact h3 e))
        · rw [if_pos (show bI (decide (1 ≤ d ∧ d ≤ 15 ∧ (fR S).2.2.1.testBit (d - 1) = true)) = 0 by rw [bI_0]; simpa using q)]
          exact hnot 3 (by decide) (pinA_3 (fun e => q e.1))
