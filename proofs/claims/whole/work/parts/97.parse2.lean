/-! pins, pairs, rows -/
section CPARSE2
variable {n : Nat} {x : Nat → Nat → Int32} {w : Int64} {I : Nat → Nat → Int32} {L : Nat → Nat → Int64} {Q : Nat → Nat → Option Nat} {D : Nat → Bool} {b : Nat → Nat} {T : Nat} {F : Fm} {t : Tok}
theorem le_sub_c {m c d : Nat} (hm : m < 2 ^ 31) (hc : c ≤ 18) (hd : d ≤ 15) (h : nI m ≤ nI c - nI d) : m + d ≤ c := by
  by_cases z : d ≤ c
  · rw [pk_sub z, nI_leI hm (by omega)] at h
    omega
  · have h1 : nI c - nI d < 0 := pk_sneg (by omega) (by omega)
    exact absurd (fa_trans (neg_lt (k := m) h1 hm) (Int32.le_refl _)) (Int32.not_lt.mpr h)
theorem c_pin (h : CP b T F t x I) (ht : t.1 ≠ 4) {d : Nat} (h7 : x 2 7 = nI d) (hd1 : 1 ≤ d) (hd2 : d ≤ 15) (hpa : F.2.2.1.testBit (d - 1) = true) (hf0 : F.2.2.2 d = 0) : ∃ r x' I', f_X5_readPin (MM n x w I L Q D) 2 = some (r, MM n x' w I' L Q D) ∧ (∀ a, a ≠ 2 → a ≠ 3 → x' a = x a) ∧ (∀ a, a ≠ 4 → I' a = I a) ∧ CRes b T (pPin b T F d t) r x' I' := by
  have hF := h.2.2.2.2.2.2.1
  have hwf : WF F.1 F.2.1 F.2.2.1 F.2.2.2 := h.2.2.2.2.2.2.2
  obtain ⟨r, x1, e1, e2, e3⟩ := c_num (n := n) (w := w) (L := L) (Q := Q) (D := D) (mo := nI F.1 - nI d) h ht
  have ex : ∀ a, a ≠ 2 → x1 a = x a := fun a ha => funext fun k => e2 a k (fun z => ha z.1)
  have e7 : x1 2 7 = nI d := by rw [e2 2 7 (by omega), h7]
  unfold f_X5_readPin pPin
  rw [r_2_0, ob_s, g_3_0, ob_s, hF.fr.1, g_2_7, ob_s, h7, o_2, if_pos rfl, e1, ob_s]
  cases hp : pNum b T t (nI F.1 - nI d) with
  | inl e =>
    rw [hp] at e3
    obtain ⟨rfl, e4, e5⟩ := e3
    exact ⟨0, x1, I, by rw [if_pos z00], fun a k _ => ex a k, fun _ _ => rfl, rfl, e4, e5⟩
  | inr u =>
    rw [hp] at e3
    obtain ⟨rfl, e4⟩ := e3
    obtain ⟨q1, q2, q3, q4, q5, q6, q7⟩ := pNum_inr hp
    have hc18 := hwf.1
    have hv : vN u + d ≤ F.1 := by rw [q5] at q4; exact le_sub_c q7 hc18 hd2 q4
    have hset := c_setPin (n := n) (w := w) (L := L) (Q := Q) (D := D) (d := d) (p := vN u) (isF3 (D := D)) e4.2.2.2.2.2.2.1.fr hwf (by omega) q7
    have hk := e4.2.2.2.2.1
    have hok : pinOk F.1 F.2.2.1 d (vN u) := ⟨⟨hd1, hd2, hpa⟩, Or.inr ⟨q6, hv⟩⟩
    dsimp only
    rw [if_neg z10, r_2_0, ob_s, g_2_7, ob_s, e7, g_2_6, ob_s, hk.2.2.2 q2, q5, o_3, if_pos rfl]
    by_cases hfree : (F.2.1 ||| pinM F.2.2.2 d 15).testBit (vN u - 1) = false ∧ (F.2.1 ||| pinM F.2.2.2 d 15).testBit (vN u + d - 1) = false
    · have hwf2 := WF.pin hwf hok (Or.inr hfree)
      have hs : f_X2_setPin (MM n x1 w I L Q D) 3 (nI d) (nI (vN u)) = some (0, MM n x1 w (s2 I 4 d (nI (vN u))) L Q D) := by
        rw [hset, pinA_0 hok (by omega) (Or.inr hfree)]
        rfl
      have hcp : CP b T (F.1, F.2.1, F.2.2.1, updN F.2.2.2 d (vN u)) u x1 (s2 I 4 d (nI (vN u))) := by
        obtain ⟨h1, h2, h3, h4, h5, h6, h7, h8⟩ := e4
        have h7 := h7.fr
        refine ⟨h1, h2, h3, fun j hj => ⟨(h4 j hj).1, by rw [s2_ne (by omega)]; exact (h4 j hj).2⟩, h5, h6, ⟨h7.1, h7.2.1, h7.2.2.1, fun e he => ?_⟩, hwf2⟩
        show s2 I 4 d (nI (vN u)) 4 e = nI (updN F.2.2.2 d (vN u) e)
        unfold updN
        rw [s2_at]
        by_cases z : e = d
        · rw [if_pos ⟨rfl, z⟩, if_pos z]
        · rw [if_neg (fun y => z y.2), if_neg z]
          exact h7.2.2.2 e he
      obtain ⟨x3, d1, d2, d3⟩ := c_next (n := n) (w := w) (L := L) (Q := Q) (D := D) hcp (by rw [q2]; decide)
      refine ⟨1, x3, s2 I 4 d (nI (vN u)), ?_, fun a k1 k2 => funext fun k => ?_, fun a k => s2_row k, ?_⟩
      · rw [hs, ob_s]
        dsimp only
        rw [if_pos z00, o_2, if_pos rfl, d1, ob_s]
      · rw [d3 a k (fun z => k1 z.1)]
        exact congrFun (ex a k1) k
      · rw [if_pos hfree]
        exact ⟨rfl, d2⟩
    · have hs : f_X2_setPin (MM n x1 w I L Q D) 3 (nI d) (nI (vN u)) = some (2, MM n x1 w I L Q D) := by
        rw [hset, pinA_2 hok (by omega) (by omega) hfree]
        rfl
      refine ⟨0, s2 x1 2 8 3, I, ?_, fun a k1 _ => by rw [s2_row k1]; exact ex a k1, fun _ _ => rfl, ?_⟩
      · rw [hs, ob_s]
        dsimp only
        rw [if_neg (show ¬ (2 : Int32) = 0 by decide), o_2, if_pos rfl, c_fails, ob_s]
        rfl
      · rw [if_neg hfree]
        exact ⟨rfl, s2_e, by rw [s2_ne (by decide)]; exact hk.2.1⟩
theorem c_pair (h : CP b T F t x I) (ht : t.1 ≠ 4) : ∃ r x' I', ((f_X5_readPair (MM n x w I L Q D) 2).bind fun x3 => if x3.1 = 0 then (some (((0 : Int32), x3.2))) else (if oK x3.2 2 5 = true then (f_X5_isWord x3.2 2 (3 : Fin 4)).bind fun x4 => if x4 = 0 then (some (((1 : Int32), x3.2))) else (if oK x3.2 2 5 = true then (f_X5_readPin x3.2 2).bind fun x5 => if x5.1 = 0 then (some (((0 : Int32), x5.2))) else (some (((1 : Int32), x5.2))) else none) else none)) = some (r, MM n x' w I' L Q D) ∧ (∀ a, a ≠ 2 → a ≠ 3 → x' a = x a) ∧ (∀ a, a ≠ 4 → I' a = I a) ∧ CRes b T (pPair b T F t) r x' I' := by
  have hF := h.2.2.2.2.2.2.1
  have hwf : WF F.1 F.2.1 F.2.2.1 F.2.2.2 := h.2.2.2.2.2.2.2
  have hp18 : F.2.2.1 < 2 ^ 18 := by have := hwf.2.2.1; omega
  have hpc9 : pc F.2.2.1 ≤ 18 := pcN_le 18 _
  unfold f_X5_readPair pPair
  rw [r_2_0, ob_s, g_3_2, ob_s, hF.fr.2.2.1, bcN hp18, ob_s]
  by_cases h9 : 9 ≤ pc F.2.2.1
  · rw [if_neg (show ¬ nI (pc F.2.2.1) < 9 from nI_nlt (b := 9) h9 (by omega)), if_pos h9, o_2, if_pos rfl, c_fails, ob_s]
    dsimp only
    rw [if_pos (Or.inl rfl), ob_s]
    exact ⟨0, s2 x 2 8 4, I, rfl, fun a k1 _ => s2_row k1, fun _ _ => rfl, rfl, s2_e, by rw [s2_ne (by decide)]; exact h.2.2.2.2.1.2.1⟩
  · rw [if_pos (show nI (pc F.2.2.1) < 9 from nI_lt (b := 9) (by omega) (by decide)), if_neg h9, o_2, if_pos rfl]
    obtain ⟨r, x1, e1, e2, e3⟩ := c_num (n := n) (w := w) (L := L) (Q := Q) (D := D) (mo := 15) h ht
    have ex : ∀ a, a ≠ 2 → x1 a = x a := fun a ha => funext fun k => e2 a k (fun z => ha z.1)
    rw [e1, ob_s]
    dsimp only
    cases hp : pNum b T t 15 with
    | inl e =>
      rw [hp] at e3
      obtain ⟨rfl, e4, e5⟩ := e3
      exact ⟨0, x1, I, by rw [if_pos z00, ob_s]; rfl, fun a k _ => ex a k, fun _ _ => rfl, rfl, e4, e5⟩
    | inr u =>
      rw [hp] at e3
      obtain ⟨rfl, e4⟩ := e3
      obtain ⟨q1, q2, q3, q4, q5, q6, q7⟩ := pNum_inr hp
      have hv : vN u ≤ 15 := by rw [q5] at q4; exact (nI_leI (b := 15) q7 (by decide)).mp q4
      have hk := e4.2.2.2.2.1
      have hset := c_setPair (n := n) (x := s2 x1 2 7 (nI (vN u))) (w := w) (L := L) (Q := Q) (D := D) (d := vN u) (b := true) (isF3 (D := D)) (FrF.fr (e4.2.2.2.2.2.2.1.same (s2_row (by decide)) rfl)) hwf q7
      rw [if_neg z10, g_2_6, ob_s, hk.2.2.2 q2, q5, p_2_7, ob_s, r_2_0, ob_s, g_2_7, ob_s, s2_e, o_3, if_pos rfl]
      dsimp only
      by_cases htd : F.2.2.1.testBit (vN u - 1) = true
      · have hno : ¬ okP F.2.2.1 (vN u) true := fun z => z.2.1 htd
        rw [show f_X2_setPair (MM n (s2 x1 2 7 (nI (vN u))) w I L Q D) 3 (nI (vN u)) 1 = _ from hset.2 hno, ob_s]
        dsimp only
        rw [if_pos (show NO = -1 from rfl), o_2, if_pos rfl, c_fails, ob_s]
        dsimp only
        rw [if_pos (Or.inl rfl), ob_s]
        refine ⟨0, s2 (s2 x1 2 7 (nI (vN u))) 2 8 3, I, rfl, fun a k1 _ => by rw [s2_row k1, s2_row k1]; exact ex a k1, fun _ _ => rfl, ?_⟩
        rw [if_pos htd]
        exact ⟨rfl, s2_e, by rw [s2_ne (by decide), s2_ne (by decide)]; exact hk.2.1⟩
      · have hyes : okP F.2.2.1 (vN u) true := ⟨⟨q6, hv⟩, fun z => htd z, fun _ => by omega⟩
        have hwf2 := WF.pair hwf hyes
        have hpcle : pc (F.2.2.1 ^^^ 2 ^ (vN u - 1)) ≤ 18 := pcN_le 18 _
        rw [show f_X2_setPair (MM n (s2 x1 2 7 (nI (vN u))) w I L Q D) 3 (nI (vN u)) 1 = _ from hset.1 hyes, ob_s]
        dsimp only
        rw [if_neg (show ¬ nI (pc (F.2.2.1 ^^^ 2 ^ (vN u - 1))) = -1 from nI_NO (by omega)), o_2, if_pos rfl]
        have hcp : CP b T (F.1, F.2.1, F.2.2.1 ^^^ 2 ^ (vN u - 1), updN F.2.2.2 (vN u) 0) u (s2 (s2 x1 2 7 (nI (vN u))) 3 2 (nI (F.2.2.1 ^^^ 2 ^ (vN u - 1)))) (s2 I 4 (vN u) 0) := by
          obtain ⟨h1, h2, h3, h4, h5, h6, h7, h8⟩ := e4
          have h7 := h7.fr
          have hx2 : ∀ k, k ≠ 7 → (s2 (s2 x1 2 7 (nI (vN u))) 3 2 (nI (F.2.2.1 ^^^ 2 ^ (vN u - 1)))) 2 k = x1 2 k := fun k hk => by rw [s2_ne (by omega), s2_ne (by omega)]
          refine ⟨by rw [hx2 _ (by decide)]; exact h1, by rw [hx2 _ (by decide)]; exact h2, h3, fun j hj => ⟨(h4 j hj).1, by rw [s2_ne (by omega)]; exact (h4 j hj).2⟩, ⟨by rw [hx2 _ (by decide)]; exact h5.1, by rw [hx2 _ (by decide)]; exact h5.2.1, by rw [hx2 _ (by decide)]; exact h5.2.2.1, fun z => by rw [hx2 _ (by decide)]; exact h5.2.2.2 z⟩, h6, ⟨by rw [s2_ne (by decide), s2_ne (by decide)]; exact h7.1, by rw [s2_ne (by decide), s2_ne (by decide)]; exact h7.2.1, s2_e, fun e he => ?_⟩, hwf2⟩
          show s2 I 4 (vN u) 0 4 e = nI (updN F.2.2.2 (vN u) 0 e)
          unfold updN
          rw [s2_at]
          by_cases z : e = vN u
          · rw [if_pos ⟨rfl, z⟩, if_pos z]; rfl
          · rw [if_neg (fun y => z y.2), if_neg z]
            exact h7.2.2.2 e he
        obtain ⟨x3, d1, d2, d3⟩ := c_next (n := n) (w := w) (L := L) (Q := Q) (D := D) hcp (by rw [q2]; decide)
        have ex3 : ∀ a, a ≠ 2 → a ≠ 3 → x3 a = x a := fun a k1 k2 => funext fun k => by
          rw [d3 a k (fun z => k1 z.1), s2_row k2, s2_row k1]
          exact congrFun (ex a k1) k
        have ei3 : ∀ a, a ≠ 4 → (s2 I 4 (vN u) 0) a = I a := fun a k => s2_row k
        have hk3 := d2.2.2.2.2.2.1
        have hw3 := c_word (n := n) (w := w) (L := L) (Q := Q) (D := D) (i := 3) d2.2.2.2.1 d2.2.2.1 d2.2.2.2.2.1 (fun z => ⟨Nat.le_of_lt (hk3.2.2 (Or.inl z)), hk3.2.1 (by rw [z]; decide)⟩) hk3.1
        rw [show f_X5_advance (MM n (s2 (s2 x1 2 7 (nI (vN u))) 3 2 (nI (F.2.2.1 ^^^ 2 ^ (vN u - 1)))) w (s2 I (3 + 1) (vN u) 0) L Q D) 2 = _ from d1, ob_s, ob_s]
        dsimp only
        rw [if_neg z10, o_2, if_pos rfl, hw3, ob_s, if_neg htd]
        by_cases hwd : wdP b (nxT b T u) 3 = true
        · have h73 : x3 2 7 = nI (vN u) := by rw [d3 2 7 (by omega), s2_ne (by decide), s2_e]
          obtain ⟨r5, x5, I5, f1, f2, f3, f4⟩ := c_pin (n := n) (w := w) (L := L) (Q := Q) (D := D) d2 (by rw [(wdP_iff.mp hwd).1]; decide) h73 q6 hv (by
            show (F.2.2.1 ^^^ 2 ^ (vN u - 1)).testBit (vN u - 1) = true
            rw [fb_bit_flip]
            have : F.2.2.1.testBit (vN u - 1) = false := by simpa using htd
            rw [this]
            simp) (by show updN F.2.2.2 (vN u) 0 (vN u) = 0; unfold updN; rw [if_pos rfl])
          rw [if_neg (show ¬ bI (wdP b (nxT b T u) 3) = 0 by rw [bI_0, hwd]; decide), if_pos rfl, f1, ob_s, if_pos hwd]
          dsimp only
          refine ⟨r5, x5, I5, ?_, fun a k1 k2 => by rw [f2 a k1 k2, ex3 a k1 k2], fun a k => by rw [f3 a k, ei3 a k], f4⟩
          unfold CRes at f4
          split at f4
          · rw [f4.1, if_pos z00]
          · rw [f4.1, if_neg z10]
        · have hwf3 : wdP b (nxT b T u) 3 = false := by simpa using hwd
          rw [if_pos (show bI (wdP b (nxT b T u) 3) = 0 by rw [bI_0, hwf3]), if_neg hwd]
          exact ⟨1, x3, s2 I 4 (vN u) 0, rfl, ex3, ei3, rfl, d2⟩
end CPARSE2
