/-! the model: pairs, rows, all -/
section MPARSE2
variable {n : Nat} {x : Nat → Nat → Int32} {w : Int64} {I : Nat → Nat → Int32} {L : Nat → Nat → Int64} {Q : Nat → Nat → Option Nat} {D : Nat → Bool} {b : Nat → Nat} {T : Nat} {F : Fm} {t : Tok}
theorem m_tell {d : Nat} {v : Int32} (hx : FrO I 67 0 F) (hd1 : 1 ≤ d) (hd2 : d ≤ 15) (hb : F.2.2.1.testBit (d - 1) = false) : ((gR (MM n x w I L Q D) 64 7 12).bind fun x11 => (aI (MM n x w I L Q D) 0 x11 (2 : Int32)).bind fun x12 => (sI (MM n x w I L Q D) 0 x11 (2 : Int32) (x12 ||| ((1 : Int32) <<< ((nI d - (1 : Int32)) &&& 31)))).bind fun h13 => (gR h13 64 7 12).bind fun x14 => (sI h13 0 x14 ((3 : Int32) + nI d) v).bind fun h15 => some (((1 : Int32), h15))) = some (1, MM n x w (s2 (s2 I 67 2 (nI (F.2.2.1 ^^^ 2 ^ (d - 1)))) 67 (3 + d) v) L Q D) := by
  have hs : shp[67]? = some (0, 19) := rfl
  have hsub : nI d - 1 = nI (d - 1) := pk_sub (b := 1) hd1
  have e3 : (3 : Int32) + nI d = nI (3 + d) := nI_add 3 d
  rw [r_64_12, ob_s, show aI (MM n x w I L Q D) 0 67 2 = some (I 67 2) from m_at (j := 2) hs (by decide), ob_s, hsub, sh1 _ (by omega), show I 67 2 = nI F.2.2.1 from hx.2.2.1, fa_or, or_xor hb, show ∀ v, sI (MM n x w I L Q D) 0 67 2 v = some (MM n x w (s2 I 67 2 v) L Q D) from fun v => m_set (j := 2) hs (by decide), ob_s, r_64_12, ob_s, e3, m_set hs (by omega), ob_s]
theorem m_pair (h : MP b T F t x w I) (ht : t.1 ≠ 4) : ∃ r x' w' I', f_X7_readPair (MM n x w I L Q D) 64 = some (r, MM n x' w' I' L Q D) ∧ MX x x' ∧ (∀ a, a ≠ 67 → I' a = I a) ∧ MRes b T (pPair b T F t) r x' w' I' := by
  have hx := h.2.2.2.2.2.2.1
  have hwf : WF F.1 F.2.1 F.2.2.1 F.2.2.2 := h.2.2.2.2.2.2.2
  have hs : shp[67]? = some (0, 19) := rfl
  have hp15 := hwf.2.2.1
  have hp9 := hwf.2.2.2.1
  have hc18 := hwf.1
  unfold f_X7_readPair pPair
  rw [r_64_12, ob_s, show aI (MM n x w I L Q D) 0 67 2 = some (I 67 2) from m_at (j := 2) hs (by decide), ob_s, show I 67 2 = nI F.2.2.1 from hx.2.2.1, bitsN (by omega), ob_s, o_64, if_pos tT1, if_pos tT1]
  generalize hpp : pc F.2.2.1 = pp at hp9 ⊢
  by_cases h9 : 9 ≤ pp
  · rw [if_pos (show nI pp = 9 by rw [show pp = 9 by omega]; rfl), if_pos h9, m_bad h, if_neg ht, ob_s]
    exact ⟨0, s2 (s2 x 64 8 4) 64 9 (nI t.2.1), w, I, rfl, mx_bad, fun _ _ => rfl, rfl, by rw [s2_ne (by decide), s2_e]; rfl, s2_e⟩
  · rw [if_neg (show ¬ nI pp = 9 from fun z => h9 (by have := (nI_eq (b := 9) (by omega) (by decide)).mp z; omega)), if_neg h9]
    obtain ⟨x1, w1, e1, e2, e3⟩ := m_num (n := n) (L := L) (Q := Q) (D := D) h ht
    obtain ⟨r, x2, f1, f2, f3⟩ := e3 15
    rw [e1, ob_s, o_64, if_pos tT1, f1, ob_s]
    cases hp : pNum b T t 15 with
    | inl e =>
      rw [hp] at f3
      obtain ⟨rfl, e4, e5⟩ := f3
      exact ⟨0, x2, w1, I, by rw [if_pos z00], f2, fun _ _ => rfl, rfl, e4, e5⟩
    | inr u =>
      rw [hp] at f3
      obtain ⟨rfl, e4⟩ := f3
      obtain ⟨q1, q2, q3, q4, q5, q6, q7⟩ := pNum_inr hp
      have hv : vN u ≤ 15 := by rw [q5] at q4; exact (nI_leI (b := 15) q7 (by decide)).mp q4
      have hval : x2 64 7 = nI (vN u) := by rw [e4.2.2.2.2.1.2.2.2.1 q2, q5]
      have htd : decide (1 ≤ vN u ∧ vN u ≤ 15 ∧ F.2.2.1.testBit (vN u - 1) = true) = F.2.2.1.testBit (vN u - 1) := by
        rw [Bool.eq_iff_iff, decide_eq_true_eq]
        exact ⟨fun z => z.2.2, fun z => ⟨q6, hv, z⟩⟩
      dsimp only
      rw [if_neg z10, g_64_7, ob_s, hval, r_64_12, ob_s, m_isTold hs hx.m0 hp15 (by omega), ob_s, htd]
      by_cases hb : F.2.2.1.testBit (vN u - 1) = true
      · rw [if_neg (bI_t hb), o_64, if_pos tT1, m_bad e4, if_neg (show ¬ u.1 = 4 by rw [q2]; decide), ob_s, if_pos hb]
        exact ⟨0, s2 (s2 x2 64 8 3) 64 9 (nI u.2.1), w1, I, rfl, f2.tr mx_bad, fun _ _ => rfl, rfl, by rw [s2_ne (by decide), s2_e]; rfl, s2_e⟩
      · have hbf : F.2.2.1.testBit (vN u - 1) = false := by simpa using hb
        have hyes : okP F.2.2.1 (vN u) true := ⟨⟨q6, hv⟩, fun z => hb z, fun _ => by rw [hpp]; omega⟩
        have hwf2 := WF.pair hwf hyes
        obtain ⟨x3, w3, d1, d2, d3⟩ := m_next (n := n) (L := L) (Q := Q) (D := D) e4 (by rw [q2]; decide)
        have hk3 := d2.2.2.2.2.2.1
        have hat := m_isAt (n := n) (I := I) (L := L) (Q := Q) (D := D) d2.2.2.2.2.1 (fun z => hk3.2.2 (Or.inl z)) hk3.1
        rw [if_pos (bI_f hb), o_64, if_pos tT1, d1, ob_s, o_64, if_pos tT1, hat, ob_s, if_neg hb]
        have hf0 : F.2.2.2 (vN u) = 0 := by
          rcases hwf.2.2.2.2.1 (vN u) (by omega) with z | z
          · exact z
          · exact absurd z.2.1 hb
        by_cases hwd : wdP b (nxT b T u) 3 = true
        · rw [if_neg (bI_t hwd), if_pos tT1, if_pos hwd]
          obtain ⟨x4, w4, c1, c2, c3⟩ := m_num (n := n) (L := L) (Q := Q) (D := D) d2 (by rw [(wdP_iff.mp hwd).1]; decide)
          obtain ⟨r5, x5, k1, k2, k3⟩ := c3 (nI F.1 - nI (vN u))
          unfold pPin
          dsimp only
          rw [c1, ob_s, r_64_12, ob_s, show aI (MM n x4 w4 I L Q D) 0 67 0 = some (I 67 0) from m_at (j := 0) hs (by decide), ob_s, show I 67 0 = nI F.1 from hx.1, o_64, if_pos tT1, k1, ob_s]
          cases hp2 : pNum b T (nxT b T u) (nI F.1 - nI (vN u)) with
          | inl e =>
            rw [hp2] at k3
            obtain ⟨rfl, e5, e6⟩ := k3
            exact ⟨0, x5, w4, I, by rw [if_pos z00], (f2.tr d3).tr k2, fun _ _ => rfl, rfl, e5, e6⟩
          | inr u2 =>
            rw [hp2] at k3
            obtain ⟨rfl, e5⟩ := k3
            obtain ⟨s1, s2', s3, s4, s5, s6, s7⟩ := pNum_inr hp2
            have hv2 : vN u2 + vN u ≤ F.1 := by rw [s5] at s4; exact le_sub_c s7 hc18 hv s4
            have hval2 : x5 64 7 = nI (vN u2) := by rw [e5.2.2.2.2.1.2.2.2.1 s2', s5]
            have hmp := m_mayPin (n := n) (x := x5) (w := w4) (L := L) (Q := Q) (D := D) hs hx.m0 hwf hv s6 (by omega)
            have hupd : updN F.2.2.2 (vN u) 0 = F.2.2.2 := funext fun e => by
              unfold updN
              by_cases z : e = vN u
              · rw [if_pos z, z, hf0]
              · rw [if_neg z]
            dsimp only
            rw [if_neg z10, g_64_7, ob_s, hval2, r_64_12, ob_s, hupd]
            by_cases hfree : pinFree F.2.1 F.2.2.2 (vN u) (vN u2)
            · obtain ⟨x6, w6, g1, g2, g3⟩ := m_next (n := n) (L := L) (Q := Q) (D := D) e5 (by rw [s2']; decide)
              rw [hmp.1 hfree, ob_s, if_neg z10, o_64, if_pos tT1, g1, ob_s, m_tell hx q6 hv hbf, if_pos (show (F.2.1 ||| pinM F.2.2.2 (vN u) 15).testBit (vN u2 - 1) = false ∧ (F.2.1 ||| pinM F.2.2.2 (vN u) 15).testBit (vN u2 + vN u - 1) = false from hfree)]
              have hok : pinOk F.1 (F.2.2.1 ^^^ 2 ^ (vN u - 1)) (vN u) (vN u2) := ⟨⟨q6, hv, by rw [fb_bit_flip, hbf]; simp⟩, Or.inr ⟨s6, hv2⟩⟩
              rw [hupd] at hwf2
              have hwf3 := WF.pin hwf2 hok (Or.inr hfree)
              exact ⟨1, x6, w6, _, rfl, ((f2.tr d3).tr k2).tr g3, fun a ha => by rw [s2_row ha, s2_row ha], rfl, g2.fr (fun a ha => by rw [s2_row ha, s2_row ha]) (FrO_told hx q6) hwf3⟩
            · rw [hmp.2 hfree, ob_s, if_pos z00, o_64, if_pos tT1, m_bad e5, if_neg (show ¬ u2.1 = 4 by rw [s2']; decide), ob_s, if_neg (show ¬ ((F.2.1 ||| pinM F.2.2.2 (vN u) 15).testBit (vN u2 - 1) = false ∧ (F.2.1 ||| pinM F.2.2.2 (vN u) 15).testBit (vN u2 + vN u - 1) = false) from hfree)]
              exact ⟨0, s2 (s2 x5 64 8 3) 64 9 (nI u2.2.1), w4, I, rfl, ((f2.tr d3).tr k2).tr mx_bad, fun _ _ => rfl, rfl, by rw [s2_ne (by decide), s2_e]; rfl, s2_e⟩
        · rw [if_pos (bI_f hwd), if_neg hwd, m_tell hx q6 hv hbf]
          exact ⟨1, x3, w3, _, rfl, f2.tr d3, fun a ha => by rw [s2_row ha, s2_row ha], rfl, d2.fr (fun a ha => by rw [s2_row ha, s2_row ha]) (FrO_told (p := 0) hx q6) hwf2⟩
end MPARSE2
