/-! drawn: the model's part; the loops -/
section DEEDM
variable {n : Nat} {x : Nat → Nat → Int32} {w : Int64} {I : Nat → Nat → Int32} {L : Nat → Nat → Int64} {Q : Nat → Nat → Option Nat} {D : Nat → Bool} {F : Fm}
theorem told_b {pa j : Nat} (hj : j ≤ 14) : bI (decide (1 ≤ j + 1 ∧ j + 1 ≤ 15 ∧ pa.testBit (j + 1 - 1) = true)) = bI (pa.testBit j) := by
  congr 1
  rw [show j + 1 - 1 = j by omega]
  simp
  omega
theorem m_distance_l {k d : Nat} (hx : FrO I 66 0 F) (hw : WFf F) (hk : k < 2 ^ 30) : ∀ (j u i fu : Nat), u + j = 15 → j < fu → i ≤ k → dst F.2.2.1 k j u i = some d → f_X7_distance_4 fu 64 (nI (k - i)) (nI (u + 1)) (MM n x w I L Q D) = some (nI d) := by
  have hw9 : WF F.1 F.2.1 F.2.2.1 F.2.2.2 := hw
  have hs : shp[66]? = some (0, 19) := rfl
  intro j
  induction j with
  | zero =>
    intro u i fu hu hfu hi hd
    rw [dst] at hd
    cases hd
  | succ j ih =>
    intro u i fu hu hfu hi hd
    obtain ⟨fu, rfl⟩ : ∃ n9, fu = n9 + 1 := ⟨fu - 1, by omega⟩
    rw [f_X7_distance_4, r_64_11, Option.bind_some, m_isTold hs hx.m0 hw9.2.2.1 (by omega), Option.bind_some, Option.bind_some, told_b (by omega)]
    rw [dst] at hd
    by_cases h0 : F.2.2.1.testBit u = true
    · rw [if_pos h0] at hd
      rw [h0, if_neg (show ¬ bI true = 0 by decide)]
      by_cases hik : i = k
      · rw [if_pos hik] at hd
        cases hd
        rw [if_pos (show nI (k - i) ≤ 0 by rw [show k - i = 0 by omega]; decide)]
      · rw [if_neg hik] at hd
        rw [if_neg (show ¬ nI (k - i) ≤ 0 from nI_nle (by omega) (by omega)), m_isTold hs hx.m0 hw9.2.2.1 (by omega), Option.bind_some, told_b (by omega), h0, if_neg (show ¬ bI true = 0 by decide), sb_m1 (by omega), show k - i - 1 = k - (i + 1) by omega, li1, nI_add]
        exact ih (u + 1) (i + 1) fu (by omega) (by omega) (by omega) hd
    · have h0' : F.2.2.1.testBit u = false := by simpa using h0
      rw [if_neg h0] at hd
      rw [h0', if_pos (show bI false = 0 from rfl), m_isTold hs hx.m0 hw9.2.2.1 (by omega), Option.bind_some, told_b (by omega), h0', if_pos (show bI false = 0 from rfl), li1, nI_add]
      exact ih (u + 1) i fu (by omega) (by omega) hi hd
theorem m_distance {k d : Nat} (hx : FrO I 66 0 F) (hw : WFf F) (hk : k < 2 ^ 30) (hd : dst F.2.2.1 k 15 0 0 = some d) : f_X7_distance (MM n x w I L Q D) 64 (nI k) = some (nI d) := by
  unfold f_X7_distance
  exact m_distance_l hx hw hk 15 0 0 4096 (by decide) (by decide) (by omega) hd
def DeM (I I' : Nat → Nat → Int32) (F : Fm) : Prop := FrO I' 66 0 F ∧ ∀ a, a ≠ 66 → I' a = I a
theorem m_dH {p : Nat} (hx : FrO I 66 0 F) (hw : WFf F) (hp : p < F.1) : ∃ I', ((gR (MM n x w I L Q D) 64 7 11).bind fun x34 => (f_X7_pins (MM n x w I L Q D) x34 (0 : Int32)).bind fun x35 => (f_X7_has (MM n x w I L Q D) x35 ((nI p + (1 : Int32)) - (1 : Int32))).bind fun x36 => if x36 = 0 then ((gR (MM n x w I L Q D) 64 7 11).bind fun x37 => (aI (MM n x w I L Q D) 0 x37 (1 : Int32)).bind fun x38 => (sI (MM n x w I L Q D) 0 x37 (1 : Int32) (x38 ^^^ ((1 : Int32) <<< (((nI p + (1 : Int32)) - (1 : Int32)) &&& 31)))).bind fun h39 => some (((1 : Int32), h39))) else (some (((0 : Int32), (MM n x w I L Q D))))) = some (bI (dH F p).1, MM n x w I' L Q D) ∧ DeM I I' (dH F p).2 := by
  have hw9 : WF F.1 F.2.1 F.2.2.1 F.2.2.2 := hw
  have hs : shp[66]? = some (0, 19) := rfl
  have hc := hw9.1
  have hpm := pinM_lt (f := F.2.2.2) 0 15 (fun d hd => hw9.f18 (by omega))
  have e1 : nI p + 1 - 1 = nI p := by rw [li1, nI_add, pk_sub (by omega)]; congr 1
  rw [e1, r_64_11, Option.bind_some, show f_X7_pins (MM n x w I L Q D) 66 0 = _ from m_pins (e := 0) hs hx.m0 hw9 (by decide), Option.bind_some, hasN (by omega) (by omega), Option.bind_some, Option.bind_some, show aI (MM n x w I L Q D) 0 66 1 = some (I 66 1) from m_at (j := 1) hs (by decide), Option.bind_some, hx.m0.2.1, sh1 p (by omega), fb_xorI, show ∀ v, sI (MM n x w I L Q D) 0 66 1 v = some (MM n x w (s2 I 66 1 v) L Q D) from fun v => m_set (j := 1) hs (by decide), Option.bind_some]
  unfold dH
  by_cases h2 : (pinM F.2.2.2 0 15).testBit p = true
  · rw [if_pos h2, if_pos h2, if_neg (show ¬ (1 : Int32) = 0 by decide)]
    exact ⟨I, rfl, hx, fun _ _ => rfl⟩
  · rw [if_neg h2, if_neg h2, if_pos rfl]
    refine ⟨_, rfl, ?_, fun a ha => s2_row ha⟩
    unfold FrO at *
    rw [s2_ne (by decide), show (0 : Nat) + 1 = 1 from rfl, s2_e, s2_ne (by decide)]
    refine ⟨hx.1, rfl, hx.2.2.1, fun d hd => ?_⟩
    rw [s2_ne (by omega)]
    exact hx.2.2.2 d hd
theorem m_dP {d : Nat} (hx : FrO I 66 0 F) (hw : WFf F) (hd : d < 15) : ∃ I', ((gR (MM n x w I L Q D) 64 7 11).bind fun x25 => (f_X7_isTold (MM n x w I L Q D) x25 (nI d + (1 : Int32))).bind fun x26 => if x26 = 0 then ((f_X7_mayPair (MM n x w I L Q D) 64 (nI d + (1 : Int32)) (1 : Int32)).bind fun x29 => if x29 = 0 then (some (((0 : Int32), (MM n x w I L Q D)))) else ((f_X7_turns (MM n x w I L Q D) 64 (nI d + (1 : Int32))).bind fun h30 => some (((1 : Int32), h30)))) else ((f_X7_mayPair (MM n x w I L Q D) 64 (nI d + (1 : Int32)) (0 : Int32)).bind fun x27 => if x27 = 0 then (some (((0 : Int32), (MM n x w I L Q D)))) else ((f_X7_turns (MM n x w I L Q D) 64 (nI d + (1 : Int32))).bind fun h28 => some (((1 : Int32), h28))))) = some (bI (dP F d).1, MM n x w I' L Q D) ∧ DeM I I' (dP F d).2 := by
  have hw9 : WF F.1 F.2.1 F.2.2.1 F.2.2.2 := hw
  have hs : shp[66]? = some (0, 19) := rfl
  have e1 : nI d + 1 = nI (d + 1) := by rw [li1, nI_add]
  have hp1 : d + 1 - 1 = d := by omega
  have hres : ∀ b, b = !F.2.2.1.testBit d → ∃ I', ((f_X7_mayPair (MM n x w I L Q D) 64 (nI (d + 1)) (bI b)).bind fun x29 => if x29 = 0 then (some (((0 : Int32), (MM n x w I L Q D)))) else ((f_X7_turns (MM n x w I L Q D) 64 (nI (d + 1))).bind fun h30 => some (((1 : Int32), h30)))) = some (bI (dP F d).1, MM n x w I' L Q D) ∧ DeM I I' (dP F d).2 := by
    intro b hb
    subst hb
    rw [m_mayPair hx.m0 hw9 (by omega), Option.bind_some, m_turns hx.m0 ⟨by omega, by omega⟩, Option.bind_some, hp1]
    unfold dP
    by_cases q : okPb F.2.2.1 (d + 1) (!F.2.2.1.testBit d) = true
    · rw [if_neg (show ¬ bI (okPb F.2.2.1 (d + 1) (!F.2.2.1.testBit d)) = 0 by rw [bI_0, q]; decide), if_pos q]
      exact ⟨_, rfl, FrO_pair hx rfl ⟨by omega, by omega⟩, fun a ha => by rw [s2_row ha, s2_row ha]⟩
    · rw [if_pos (show bI (okPb F.2.2.1 (d + 1) (!F.2.2.1.testBit d)) = 0 by rw [bI_0]; simpa using q), if_neg q]
      exact ⟨I, rfl, hx, fun _ _ => rfl⟩
  rw [e1, r_64_11, Option.bind_some, m_isTold hs hx.m0 hw9.2.2.1 (by omega), Option.bind_some, told_b (by omega)]
  cases hb : F.2.2.1.testBit d with
  | true =>
    rw [if_neg (show ¬ bI true = 0 by decide)]
    exact hres false (by rw [hb]; rfl)
  | false =>
    rw [if_pos (show bI false = 0 from rfl)]
    exact hres true (by rw [hb]; rfl)
theorem m_dN {d p : Nat} (hx : FrO I 66 0 F) (hw : WFf F) (hd : 1 ≤ d ∧ d ≤ 15 ∧ F.2.2.1.testBit (d - 1) = true) (hp : p < 2 ^ 30) : ∃ I', ((gR (MM n x w I L Q D) 64 7 11).bind fun x14 => (aI (MM n x w I L Q D) 0 x14 ((3 : Int32) + nI d)).bind fun x15 => if x15 ≤ 0 then ((gR (MM n x w I L Q D) 64 7 11).bind fun x16 => (aI (MM n x w I L Q D) 0 x16 (0 : Int32)).bind fun x17 => if x17 < ((nI p + (1 : Int32)) + nI d) then (some (((0 : Int32), (MM n x w I L Q D)))) else ((gR (MM n x w I L Q D) 64 7 11).bind fun x18 => (f_X7_mayPin (MM n x w I L Q D) x18 (nI d) (nI p + (1 : Int32))).bind fun x19 => if x19 = 0 then (some (((0 : Int32), (MM n x w I L Q D)))) else ((gR (MM n x w I L Q D) 64 7 11).bind fun x20 => (sI (MM n x w I L Q D) 0 x20 ((3 : Int32) + nI d) (nI p + (1 : Int32))).bind fun h21 => some (((1 : Int32), h21))))) else ((gR (MM n x w I L Q D) 64 7 11).bind fun x22 => (sI (MM n x w I L Q D) 0 x22 ((3 : Int32) + nI d) (0 : Int32)).bind fun h23 => some (((1 : Int32), h23)))) = some (bI (dN F d (p + 1)).1, MM n x w I' L Q D) ∧ DeM I I' (dN F d (p + 1)).2 := by
  have hw9 : WF F.1 F.2.1 F.2.2.1 F.2.2.2 := hw
  have hs : shp[66]? = some (0, 19) := rfl
  have hc := hw9.1
  have e1 : nI p + 1 = nI (p + 1) := by rw [li1, nI_add]
  have e3 : (3 : Int32) + nI d = nI (3 + d) := by rw [li3, nI_add]
  have hfd := hw9.f18 (d := d) (by omega)
  have hx3 : I 66 (3 + d) = nI (F.2.2.2 d) := hx.m0.2.2.2 d (by omega)
  rw [e1, e3, nI_add, r_64_11]
  simp only [ob_s]
  rw [m_at hs (by omega), Option.bind_some, hx3, show aI (MM n x w I L Q D) 0 66 0 = some (I 66 0) from m_at (j := 0) hs (by decide), Option.bind_some, hx.m0.1, show ∀ v, sI (MM n x w I L Q D) 0 66 (nI (3 + d)) v = some (MM n x w (s2 I 66 (3 + d) v) L Q D) from fun v => m_set hs (by omega), Option.bind_some]
  unfold dN
  by_cases h4 : F.2.2.2 d = 0
  · have h4' : ¬ F.2.2.2 d ≠ 0 := fun q => q h4
    rw [if_pos (show nI (F.2.2.2 d) ≤ 0 by rw [h4]; decide), if_neg h4']
    by_cases h5 : F.1 < p + 1 + d
    · rw [if_pos (nI_lt h5 (by omega)), if_neg (show ¬ pinA F.1 F.2.1 F.2.2.1 F.2.2.2 d (p + 1) = 0 by rw [pinA_3 (fun e => by rcases e.2 with e | e <;> omega)]; decide)]
      exact ⟨I, rfl, hx, fun _ _ => rfl⟩
    · have hok : pinOk F.1 F.2.2.1 d (p + 1) := ⟨hd, Or.inr ⟨by omega, by omega⟩⟩
      have hne : F.2.2.2 d ≠ p + 1 := by omega
      have hmp := m_mayPin (n := n) (x := x) (w := w) (L := L) (Q := Q) (D := D) hs hx.m0 hw9 hd.2.1 (p := p + 1) (by omega) (by omega)
      rw [if_neg (nI_nlt (by omega) (by omega))]
      by_cases h7 : pinFree F.2.1 F.2.2.2 d (p + 1)
      · rw [hmp.1 h7, Option.bind_some, if_neg (show ¬ (1 : Int32) = 0 by decide), if_pos (pinA_0 hok hne (Or.inr h7))]
        exact ⟨_, rfl, FrO_pin hx rfl, fun a ha => s2_row ha⟩
      · rw [hmp.2 h7, Option.bind_some, if_pos rfl, if_neg (show ¬ pinA F.1 F.2.1 F.2.2.1 F.2.2.2 d (p + 1) = 0 by rw [pinA_2 hok hne (by omega) h7]; decide)]
        exact ⟨I, rfl, hx, fun _ _ => rfl⟩
  · rw [if_neg (show ¬ nI (F.2.2.2 d) ≤ 0 from nI_nle (by omega) (by omega)), if_pos h4]
    rw [show sI (MM n x w I L Q D) 0 66 (nI (3 + d)) 0 = some (MM n x w (s2 I 66 (3 + d) (nI 0)) L Q D) from m_set hs (by omega), Option.bind_some]
    exact ⟨_, rfl, FrO_pin (p := 0) hx rfl, fun a ha => s2_row ha⟩
def DrM (n : Nat) (w : Int64) (L : Nat → Nat → Int64) (Q : Nat → Nat → Option Nat) (D : Nat → Bool) (s s1 : Int32) (V : Nat → Nat) : Prop := ∀ (x I : Nat → Nat → Int32) (m : Nat), x 64 30 = s → 1 ≤ m → m < 2 ^ 31 → f_X7_draw (MM n x w I L Q D) 64 (nI m) = some (nI (V m), MM n (s2 x 64 30 s1) w I L Q D)
theorem m_deedG {s s1 s2' s3 : Int32} {V1 V2 V3 : Nat → Nat} (d1 : DrM n w L Q D s s1 V1) (d2 : DrM n w L Q D s1 s2' V2) (d3 : DrM n w L Q D s2' s3 V3) (v1 : ∀ m, 1 ≤ m → V1 m < m) (v2 : ∀ m, 1 ≤ m → V2 m < m) (v3 : ∀ m, 1 ≤ m → V3 m < m) (hs : x 64 30 = s) (h6 : FrO I 66 0 F) (hw : WFf F) : ∃ I', f_X7_does (MM n x w I L Q D) 64 = some (bI (deedG s1 s2' s3 V1 V2 V3 F).1, MM n (s2 x 64 30 (deedG s1 s2' s3 V1 V2 V3 F).2.1) w I' L Q D) ∧ DeM I I' (deedG s1 s2' s3 V1 V2 V3 F).2.2 := by
  have hw9 : WF F.1 F.2.1 F.2.2.1 F.2.2.2 := hw
  have hc := hw9.1
  have hh : shp[66]? = some (0, 19) := rfl
  have hd4 := v1 4 (by decide)
  unfold f_X7_does deedG
  rw [o_64, if_pos rfl, show f_X7_draw (MM n x w I L Q D) 64 4 = _ from d1 x I 4 hs (by decide) (by decide), Option.bind_some, r_64_11, Option.bind_some, show aI (MM n (s2 x 64 30 s1) w I L Q D) 0 66 0 = some (I 66 0) from m_at (j := 0) hh (by decide), Option.bind_some, h6.m0.1]
  by_cases h0 : F.1 = 0
  · rw [if_pos (show nI F.1 = 0 by rw [h0]; rfl), if_pos h0]
    exact ⟨I, rfl, h6, fun _ _ => rfl⟩
  · rw [if_neg (show ¬ nI F.1 = 0 from nI_ne0 (by omega) (by omega)), if_neg h0]
    by_cases h1 : V1 4 = 0
    · have hdc := v2 F.1 (by omega)
      obtain ⟨I', g1, g2, g3⟩ := m_dH (n := n) (x := s2 x 64 30 s2') (w := w) (L := L) (Q := Q) (D := D) h6 hw hdc
      rw [if_pos (show nI (V1 4) = 0 by rw [h1]; rfl), Option.bind_some, show aI (MM n (s2 x 64 30 s1) w I L Q D) 0 66 0 = some (I 66 0) from m_at (j := 0) hh (by decide), Option.bind_some, h6.m0.1, o_64, if_pos rfl, d2 _ I F.1 s2_e (by omega) (by omega), Option.bind_some, if_pos h1, s2_s2]
      exact ⟨I', g1, g2, g3⟩
    · rw [if_neg (show ¬ nI (V1 4) = 0 from nI_ne0 (by omega) (by omega)), if_neg h1]
      by_cases h2 : V1 4 = 1
      · have hdc := v2 15 (by decide)
        obtain ⟨I', g1, g2, g3⟩ := m_dP (n := n) (x := s2 x 64 30 s2') (w := w) (L := L) (Q := Q) (D := D) h6 hw hdc
        rw [if_pos (show nI (V1 4) = 1 by rw [h2]; rfl), o_64, if_pos rfl, show f_X7_draw (MM n (s2 x 64 30 s1) w I L Q D) 64 15 = _ from d2 _ I 15 s2_e (by decide) (by decide), Option.bind_some, if_pos h2, s2_s2]
        simp only [o_64, if_true]
        exact ⟨I', g1, g2, g3⟩
      · rw [if_neg (show ¬ nI (V1 4) = 1 from fun z => h2 ((nI_eq (b := 1) (by omega) (by decide)).mp z)), if_neg h2, Option.bind_some, show aI (MM n (s2 x 64 30 s1) w I L Q D) 0 66 2 = some (I 66 2) from m_at (j := 2) hh (by decide), Option.bind_some, h6.m0.2.2.1]
        have hp := hw9.2.2.1
        by_cases h3 : F.2.2.1 = 0
        · rw [if_pos h3, if_pos (show nI F.2.2.1 = 0 by rw [h3]; rfl)]
          exact ⟨I, rfl, h6, fun _ _ => rfl⟩
        · have hpp := pc_pos hp h3
          have hpc9 := hw9.2.2.2.1
          have hdl := v2 _ hpp
          have hdc := v3 F.1 (by omega)
          obtain ⟨d, e1, e2, e3, e4⟩ := dst_ok (pa := F.2.2.1) (k := V2 (pc F.2.2.1)) hp hdl
          obtain ⟨I', g1, g2, g3⟩ := m_dN (n := n) (x := s2 x 64 30 s3) (w := w) (L := L) (Q := Q) (D := D) (p := V3 F.1) h6 hw ⟨e2, e3, e4⟩ (by omega)
          rw [if_neg h3, e1, if_neg (show ¬ nI F.2.2.1 = 0 from nI_ne0 (by omega) (by omega)), Option.bind_some, show aI (MM n (s2 x 64 30 s1) w I L Q D) 0 66 2 = some (I 66 2) from m_at (j := 2) hh (by decide), Option.bind_some, h6.m0.2.2.1, bitsN (by omega), Option.bind_some, o_64, if_pos rfl, d2 _ I _ s2_e hpp (pc_small _), Option.bind_some, o_64, if_pos rfl, s2_s2, m_distance h6 hw (by omega) e1, Option.bind_some, r_64_11, Option.bind_some, show aI (MM n (s2 x 64 30 s2') w I L Q D) 0 66 0 = some (I 66 0) from m_at (j := 0) hh (by decide), Option.bind_some, h6.m0.1]
          show ∃ I', (if oK (MM n (s2 x 64 30 s2') w I L Q D) 64 7 = true then (f_X7_draw (MM n (s2 x 64 30 s2') w I L Q D) 64 (nI F.1)).bind _ else _) = _ ∧ _
          rw [o_64, if_pos rfl, d3 _ I _ s2_e (by omega) (by omega), Option.bind_some, s2_s2]
          exact ⟨I', g1, g2, g3⟩
theorem m_deed {s : Int32} (hs : x 64 30 = s) (h6 : FrO I 66 0 F) (hw : WFf F) : ∃ I', f_X7_does (MM n x w I L Q D) 64 = some (bI (deed s F).1, MM n (s2 x 64 30 (deed s F).2.1) w I' L Q D) ∧ DeM I I' (deed s F).2.2 :=
  m_deedG (fun x I m h1 h2 h3 => m_draw h1 h2 h3) (fun x I m h1 h2 h3 => m_draw h1 h2 h3) (fun x I m h1 h2 h3 => m_draw h1 h2 h3) (fun m h => dv_lt h) (fun m h => dv_lt h) (fun m h => dv_lt h) hs h6 hw
end DEEDM
