/-! now, pinned -/
theorem FrO.m0 {I : Nat → Nat → Int32} {a : Nat} {F : Fm} (h : FrO I a 0 F) : FrM0 I a F.1 F.2.1 F.2.2.1 F.2.2.2 := ⟨h.1, h.2.1, h.2.2.1, fun d hd => h.2.2.2 d hd⟩
theorem m0.FrO {I : Nat → Nat → Int32} {a : Nat} {F : Fm} (h : FrM0 I a F.1 F.2.1 F.2.2.1 F.2.2.2) : FrO I a 0 F := ⟨h.1, h.2.1, h.2.2.1, fun d hd => h.2.2.2 d hd⟩
section NOW
variable {n : Nat} {x : Nat → Nat → Int32} {w : Int64} {I : Nat → Nat → Int32} {L : Nat → Nat → Int64} {Q : Nat → Nat → Option Nat} {D : Nat → Bool} {c ho pa : Nat} {f : Nat → Nat}
theorem m_pinnedOnes_l (hx : FrM0 I 66 c ho pa f) (hw : WF c ho pa f) : ∀ (j u fu : Nat), u + j = 15 → j < fu → f_X7_pinnedOnes_4 fu 64 (nI (pinD f u)) (nI (u + 1)) (MM n x w I L Q D) = some (nI (pinD f 15)) := by
  intro j
  induction j with
  | zero =>
    intro u fu hu hfu
    obtain ⟨fu, rfl⟩ : ∃ n9, fu = n9 + 1 := ⟨fu - 1, by omega⟩
    obtain rfl : u = 15 := by omega
    rw [f_X7_pinnedOnes_4, if_pos (by decide)]
  | succ j ih =>
    intro u fu hu hfu
    obtain ⟨fu, rfl⟩ : ∃ n9, fu = n9 + 1 := ⟨fu - 1, by omega⟩
    have hst := ih (u + 1) fu (by omega) (by omega)
    have hd := hw.f18 (d := u + 1) (by omega)
    have hs : shp[66]? = some (0, 19) := rfl
    rw [f_X7_pinnedOnes_4, li15, if_neg (nI_nlt (by omega) (by omega)), r_64_11, Option.bind_some, m_isTold hs hx hw.2.2.1 (by omega), Option.bind_some, Option.bind_some, li3, nI_add, m_at hs (by omega), Option.bind_some, hx.2.2.2 _ (by omega), li1, nI_add, m_shl (by omega) (by omega), fa_or, show u + 1 - 1 = u by omega]
    rw [pinD] at hst
    by_cases h0 : f (u + 1) = 0
    · rw [if_neg (fun q => q h0)] at hst
      have h0' : nI (f (u + 1)) ≤ 0 := by rw [h0]; decide
      rw [if_pos h0']
      by_cases h2 : bI (decide (1 ≤ u + 1 ∧ u + 1 ≤ 15 ∧ pa.testBit u = true)) = 0
      · rw [if_pos h2]
        exact hst
      · rw [if_neg h2]
        exact hst
    · rw [if_pos h0] at hst
      have ht : pa.testBit u = true := by
        rcases hw.2.2.2.2.1 (u + 1) (by omega) with q | q
        · exact absurd q h0
        · exact q.2.1
      have h2 : ¬ bI (decide (1 ≤ u + 1 ∧ u + 1 ≤ 15 ∧ pa.testBit u = true)) = 0 := by
        rw [bI_0]
        simp [ht]
        omega
      rw [if_neg h2, if_neg (nI_nle (by omega) (by omega))]
      exact hst
theorem m_pinnedOnes (hx : FrM0 I 66 c ho pa f) (hw : WF c ho pa f) : f_X7_pinnedOnes (MM n x w I L Q D) 64 = some (nI (pinD f 15)) := by
  unfold f_X7_pinnedOnes
  exact m_pinnedOnes_l hx hw 15 0 4096 (by decide) (by decide)
end NOW
theorem isF6 {D : Nat → Bool} : isF D 6 := Or.inr (Or.inl rfl)
theorem isF8 {D : Nat → Bool} : isF D 8 := Or.inr (Or.inr (Or.inl rfl))
theorem isF3 {D : Nat → Bool} : isF D 3 := Or.inl rfl
theorem isF36 {D : Nat → Bool} : isF D 36 := Or.inr (Or.inr (Or.inr (Or.inl rfl)))
def nowA (a1 : Int32) (S : St) : Int32 := if a1 = 0 then nI (fR S).1 else if a1 = 1 then nI (fR S).2.1 else if a1 = 2 then nI (fR S).2.2.1 else if a1 = 3 then nI (pinD (fR S).2.2.2 15) else if a1 = 4 then (if evF (fR S).1 (fR S).2.1 (fR S).2.2.1 = true then 1 else 0) else if a1 = 5 then nI (uN9 S) else if a1 = 6 then nI (tL S) else NO
theorem s_now {PC : PCt} (hP : PCok PC) : S_now (INVp PC) := by
  intro h hI a1
  refine both0 (fC := fun h => f_X6_now h 0 a1) (fM := fun h => f_X7_now h 64 a1) hP.sc (nowA a1) (fun S => S) (fun n x w I L Q D S hc => ⟨?_, hc⟩) (fun n x w I L Q D S hb hm => ⟨s2 x 64 0 0, w, I, ?_, hm.thrown, SC.s2x⟩) hI
  · have hx : FrC x I 6 (fR S).1 (fR S).2.1 (fR S).2.2.1 (fR S).2.2.2 := hc.2.2.2.2.1.2
    have hw : WF (fR S).1 (fR S).2.1 (fR S).2.2.1 (fR S).2.2.2 := hc.2.2.2.2.1.1
    unfold f_X6_now nowA
    by_cases h0 : a1 = 0
    · rw [if_pos h0, if_pos h0, r_0_4, Option.bind_some, g_6_0, Option.bind_some, hx.1]
    · rw [if_neg h0, if_neg h0]
      by_cases h1 : a1 = 1
      · rw [if_pos h1, if_pos h1, r_0_4, Option.bind_some, g_6_1, Option.bind_some, hx.2.1]
      · rw [if_neg h1, if_neg h1]
        by_cases h2 : a1 = 2
        · rw [if_pos h2, if_pos h2, r_0_4, Option.bind_some, g_6_2, Option.bind_some, hx.2.2.1]
        · rw [if_neg h2, if_neg h2]
          by_cases h3 : a1 = 3
          · rw [if_pos h3, if_pos h3, r_0_4, Option.bind_some, o_6, if_pos rfl, c_pinnedPairs isF6 hx (fun d hd => by have := hw.f18 hd; omega), Option.bind_some]
          · rw [if_neg h3, if_neg h3]
            by_cases h4 : a1 = 4
            · rw [if_pos h4, if_pos h4, r_0_4, Option.bind_some, o_6, if_pos rfl, c_isEven isF6 hx hw.1 hw.2.1 hw.2.2.1, Option.bind_some]
              by_cases q : evF (fR S).1 (fR S).2.1 (fR S).2.2.1 = true
              · rw [if_pos q, if_neg (show ¬ (1 : Int32) = 0 by decide)]
              · rw [if_neg q, if_pos rfl]
            · rw [if_neg h4, if_neg h4]
              by_cases h5 : a1 = 5
              · rw [if_pos h5, if_pos h5, r_0_6, Option.bind_some, g_10_2, Option.bind_some, hc.2.2.2.2.2.1.2.1]
              · rw [if_neg h5, if_neg h5]
                by_cases h6 : a1 = 6
                · rw [if_pos h6, if_pos h6, g_0_1, Option.bind_some, hc.2.2.1.2.1]
                · rw [if_neg h6, if_neg h6]
                  rfl
  · have hx : FrM0 I 66 (fR S).1 (fR S).2.1 (fR S).2.2.1 (fR S).2.2.2 := hm.2.2.1.m0
    have hw : WF (fR S).1 (fR S).2.1 (fR S).2.2.1 (fR S).2.2.2 := hb.1
    have hs : shp[66]? = some (0, 19) := rfl
    unfold f_X7_now nowA
    rw [p_64_0, Option.bind_some]
    by_cases h0 : a1 = 0
    · rw [if_pos h0, if_pos h0, r_64_11, Option.bind_some, li0, m_at hs (by decide), Option.bind_some, hx.1]
    · rw [if_neg h0, if_neg h0]
      by_cases h1 : a1 = 1
      · rw [if_pos h1, if_pos h1, r_64_11, Option.bind_some, li1, m_at hs (by decide), Option.bind_some, hx.2.1]
      · rw [if_neg h1, if_neg h1]
        by_cases h2 : a1 = 2
        · rw [if_pos h2, if_pos h2, r_64_11, Option.bind_some, li2, m_at hs (by decide), Option.bind_some, hx.2.2.1]
        · rw [if_neg h2, if_neg h2]
          by_cases h3 : a1 = 3
          · rw [if_pos h3, if_pos h3, o_64, if_pos rfl, m_pinnedOnes hx hw, Option.bind_some]
          · rw [if_neg h3, if_neg h3]
            by_cases h4 : a1 = 4
            · rw [if_pos h4, if_pos h4, r_64_11, Option.bind_some, o_64, if_pos rfl, m_isEven hs hx hw, Option.bind_some]
              by_cases q : evF (fR S).1 (fR S).2.1 (fR S).2.2.1 = true
              · rw [if_pos q, if_neg (show ¬ (1 : Int32) = 0 by decide)]
              · rw [if_neg q, if_pos rfl]
            · rw [if_neg h4, if_neg h4]
              by_cases h5 : a1 = 5
              · rw [if_pos h5, if_pos h5, g_64_19, Option.bind_some, s2_ne (by decide), hm.2.2.2.1.1]
              · rw [if_neg h5, if_neg h5]
                by_cases h6 : a1 = 6
                · rw [if_pos h6, if_pos h6, g_64_2, Option.bind_some, s2_ne (by decide), hm.1.1]
                · rw [if_neg h6, if_neg h6]
                  rfl
theorem s_pinned {PC : PCt} (hP : PCok PC) : S_pinned (INVp PC) := by
  intro h hI a1
  rcases neg_or a1 with hq | ⟨j, hj, rfl⟩
  · refine both0 (fC := fun h => f_X6_pinned h 0 a1) (fM := fun h => f_X7_pinned h 64 a1) hP.sc (fun _ => NO) (fun S => S) (fun n x w I L Q D S hc => ⟨?_, hc⟩) (fun n x w I L Q D S hb hm => ⟨s2 x 64 0 0, w, I, ?_, hm.thrown, SC.s2x⟩) hI
    · unfold f_X6_pinned
      rw [r_0_4, Option.bind_some, o_6, if_pos rfl, c_hasPairN hq, Option.bind_some, if_pos rfl]; rfl
    · unfold f_X7_pinned
      rw [p_64_0, Option.bind_some, r_64_11, Option.bind_some, m_isToldN hq, Option.bind_some, if_pos rfl]; rfl
  · refine both0 (fC := fun h => f_X6_pinned h 0 (nI j)) (fM := fun h => f_X7_pinned h 64 (nI j)) hP.sc (fun S => if 1 ≤ j ∧ j ≤ 15 ∧ (fR S).2.2.1.testBit (j - 1) = true then nI ((fR S).2.2.2 j) else NO) (fun S => S) (fun n x w I L Q D S hc => ⟨?_, hc⟩) (fun n x w I L Q D S hb hm => ⟨s2 x 64 0 0, w, I, ?_, hm.thrown, SC.s2x⟩) hI
    · have hx : FrC x I 6 (fR S).1 (fR S).2.1 (fR S).2.2.1 (fR S).2.2.2 := hc.2.2.2.2.1.2
      unfold f_X6_pinned
      rw [liN, r_0_4, Option.bind_some, o_6, if_pos rfl, c_hasPair isF6 hx hj, Option.bind_some]
      by_cases q : 1 ≤ j ∧ j ≤ 15 ∧ (fR S).2.2.1.testBit (j - 1) = true
      · rw [if_pos q, if_pos q, if_neg (show ¬ (1 : Int32) = 0 by decide), Option.bind_some, r_6_3, Option.bind_some, F_a (a := 6) isF6 (by omega), Option.bind_some, hx.2.2.2 j (by omega)]
      · rw [if_neg q, if_neg q, if_pos rfl]
    · have hx : FrM0 I 66 (fR S).1 (fR S).2.1 (fR S).2.2.1 (fR S).2.2.2 := hm.2.2.1.m0
      have hw : WF (fR S).1 (fR S).2.1 (fR S).2.2.1 (fR S).2.2.2 := hb.1
      have hs : shp[66]? = some (0, 19) := rfl
      unfold f_X7_pinned
      rw [liN, p_64_0, Option.bind_some, r_64_11, Option.bind_some, m_isTold hs hx hw.2.2.1 hj, Option.bind_some]
      by_cases q : 1 ≤ j ∧ j ≤ 15 ∧ (fR S).2.2.1.testBit (j - 1) = true
      · have q' : ¬ bI (decide (1 ≤ j ∧ j ≤ 15 ∧ (fR S).2.2.1.testBit (j - 1) = true)) = 0 := by rw [bI_0]; simpa using q
        rw [if_neg q', Option.bind_some, li3, nI_add, m_at hs (by omega), Option.bind_some, hx.2.2.2 j (by omega), if_pos q]
      · have q' : bI (decide (1 ≤ j ∧ j ≤ 15 ∧ (fR S).2.2.1.testBit (j - 1) = true)) = 0 := by rw [bI_0]; simpa using q
        rw [if_pos q', if_neg q]
