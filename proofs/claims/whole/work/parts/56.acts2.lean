/-! pair, pin -/
theorem updN_e {f : Nat → Nat} {d v : Nat} : updN f d v d = v := if_pos rfl
theorem updN_n {f : Nat → Nat} {d v e : Nat} (h : ¬ e = d) : updN f d v e = f e := if_neg h
theorem pc_small (m : Nat) : pc m < 2 ^ 31 := by have := pcN_le 18 m; have e : pc m = pcN 18 m := rfl; omega
theorem nI_NO {j : Nat} (hj : j < 2 ^ 31) : ¬ nI j = NO := fun z => by
  have : nI j < 0 := by rw [z]; decide
  exact nI_pos hj this
section MPAIR
variable {n : Nat} {x : Nat → Nat → Int32} {w : Int64} {I : Nat → Nat → Int32} {L : Nat → Nat → Int64} {Q : Nat → Nat → Option Nat} {D : Nat → Bool} {c ho pa : Nat} {f : Nat → Nat}
theorem m_mayPair {d : Nat} {b : Bool} (hx : FrM0 I 66 c ho pa f) (hw : WF c ho pa f) (hd : d < 2 ^ 31) : f_X7_mayPair (MM n x w I L Q D) 64 (nI d) (bI b) = some (bI (okPb pa d b)) := by
  have hs : shp[66]? = some (0, 19) := rfl
  have hp := hw.2.2.1
  unfold f_X7_mayPair okPb
  rw [li1, li15, m_isIn hd (by decide) (by decide), Option.bind_some, r_64_11, Option.bind_some, m_isTold hs hx hp hd, Option.bind_some, Option.bind_some, li2, m_at hs (by decide), Option.bind_some, hx.2.2.1, bitsN (by omega), Option.bind_some, li9]
  by_cases h1 : 1 ≤ d ∧ d ≤ 15
  · have e1 : ¬ bI (decide (1 ≤ d ∧ d ≤ 15)) = 0 := by rw [bI_0]; simpa using h1
    have e2 : decide (1 ≤ d ∧ d ≤ 15 ∧ pa.testBit (d - 1) = true) = pa.testBit (d - 1) := by simp [h1]
    rw [if_neg e1, e2]
    by_cases h2 : pa.testBit (d - 1) = b
    · rw [if_pos (bI_eq.mpr h2), h2]
      simp [bI]
    · rw [if_neg (fun z => h2 (bI_eq.mp z))]
      cases b with
      | false =>
        rw [if_pos (show bI false = 0 from rfl)]
        have : pa.testBit (d - 1) = true := by revert h2; cases pa.testBit (d - 1) <;> simp
        rw [this]
        simp [h1]
        rfl
      | true =>
        rw [if_neg (show ¬ bI true = 0 by decide)]
        have : pa.testBit (d - 1) = false := by revert h2; cases pa.testBit (d - 1) <;> simp
        rw [this]
        by_cases h9 : pc pa < 9
        · rw [if_neg (nI_ge h9 (by decide))]
          simp [h1, h9]
          rfl
        · rw [if_pos (nI_le (by omega) (pc_small _))]
          simp [h9]
          rfl
  · rw [if_pos (show bI (decide (1 ≤ d ∧ d ≤ 15)) = 0 by rw [bI_0]; simpa using h1)]
    simp [h1]
    rfl
theorem m_mayPairN {q u : Int32} (hq : q < 0) : f_X7_mayPair (MM n x w I L Q D) 64 q u = some 0 := by
  unfold f_X7_mayPair
  rw [li1, m_isInN hq (by decide), Option.bind_some, if_pos rfl]
theorem m_turns {d : Nat} (hx : FrM0 I 66 c ho pa f) (h1 : 1 ≤ d ∧ d ≤ 15) : f_X7_turns (MM n x w I L Q D) 64 (nI d) = some (MM n x w (s2 (s2 I 66 2 (nI (pa ^^^ 2 ^ (d - 1)))) 66 (3 + d) 0) L Q D) := by
  have hs : shp[66]? = some (0, 19) := rfl
  unfold f_X7_turns
  rw [r_64_11, Option.bind_some, li2, m_at hs (by decide), Option.bind_some, hx.2.2.1, li1, m_shl h1.1 (by omega), fb_xorI, m_set hs (by decide), Option.bind_some, r_64_11, Option.bind_some, li3, nI_add, m_set hs (by omega), Option.bind_some]
end MPAIR
theorem FrO_pair {I I1 : Nat → Nat → Int32} {F : Fm} {d v : Nat} (ho : FrO I 66 0 F) (h66 : I1 66 = I 66) (h1 : 1 ≤ d ∧ d ≤ 15) : FrO (s2 (s2 I1 66 2 (nI v)) 66 (3 + d) 0) 66 0 (F.1, F.2.1, v, updN F.2.2.2 d 0) := by
  unfold FrO at *
  rw [s2_ne (by omega), s2_ne (by omega), s2_ne (by omega), s2_ne (by omega), s2_ne (by omega), show (0 : Nat) + 2 = 2 from rfl, s2_e, h66]
  refine ⟨ho.1, ho.2.1, rfl, fun e he => ?_⟩
  rw [s2_at, show 0 + 3 + e = 3 + e by omega]
  show _ = nI (updN F.2.2.2 d 0 e)
  by_cases q : e = d
  · rw [if_pos ⟨rfl, by omega⟩, q, updN_e]; rfl
  · rw [if_neg (by omega), updN_n q, s2_ne (by omega), h66]
    have := ho.2.2.2 e he
    rw [show 0 + 3 + e = 3 + e by omega] at this
    exact this
theorem s_pair {PC : PCt} (hP : PCok PC) : S_pair (INVp PC) := by
  intro h hI a1 a2 ha2
  obtain ⟨b, rfl⟩ : ∃ b, a2 = bI b := by rcases ha2 with rfl | rfl; exact ⟨false, rfl⟩; exact ⟨true, rfl⟩
  rcases neg_or a1 with hq | ⟨d, hd, rfl⟩
  · refine both (fC := fun h => f_X6_pair h 0 a1 (bI b)) (fM := fun h => f_X7_pair h 64 a1 (bI b)) hP.sc (fun _ => NO) (fun S => S) (fun n x w I L Q D S hc => ?_) (fun n x w I L Q D S hb hm => ⟨s2 x 64 0 0, w, I, ?_, hm.thrown, SC.s2x⟩) hI
    · obtain ⟨x1, I1, e1, e2, e3, e4, e5⟩ := c_before hP (w := w) hc
      refine ⟨n, x1, I1, L, Q, D, ?_, e2, SM.of (fun a h1 h2 => e3 a (by omega)) (fun a h1 h2 => e4 a (by omega))⟩
      unfold f_X6_pair
      rw [liN, r_0_5, Option.bind_some, r_0_4, Option.bind_some, o_8, if_pos rfl, e1, Option.bind_some, r_0_4, Option.bind_some, o_6, if_pos rfl, c_setPairN hq, Option.bind_some, if_pos rfl]
    · unfold f_X7_pair
      rw [liN, p_64_0, Option.bind_some, o_64, if_pos rfl, m_mayPairN hq, Option.bind_some, if_pos rfl]
  · refine both (fC := fun h => f_X6_pair h 0 (nI d) (bI b)) (fM := fun h => f_X7_pair h 64 (nI d) (bI b)) hP.sc (fun S => if okPb (fR S).2.2.1 d b = true then nI (pc ((fR S).2.2.1 ^^^ 2 ^ (d - 1))) else NO) (fun S => if okPb (fR S).2.2.1 d b = true then actS S ((fR S).1, (fR S).2.1, (fR S).2.2.1 ^^^ 2 ^ (d - 1), updN (fR S).2.2.2 d 0) else S) (fun n x w I L Q D S hc => ?_) (fun n x w I L Q D S hb hm => ?_) hI
    · obtain ⟨x1, I1, e1, e2, e3, e4, e5⟩ := c_before hP (w := w) hc
      have hw : WF (fR S).1 (fR S).2.1 (fR S).2.2.1 (fR S).2.2.2 := hc.2.2.2.2.1.1
      have h6 : FrC x1 I1 6 (fR S).1 (fR S).2.1 (fR S).2.2.1 (fR S).2.2.2 := e2.2.2.2.2.1.2
      have hset := c_setPair (n := n) (w := w) (L := L) (Q := Q) (D := D) (d := d) (b := b) isF6 h6 hw hd
      by_cases q : okPb (fR S).2.2.1 d b = true
      · have qq := okPb_iff.mp q
        have e6 := hset.1 qq
        obtain ⟨n', x', I', Q', D', g1, g2, g3, g4⟩ := c_acted hP (w := w) (x1 := s2 x1 6 2 (nI ((fR S).2.2.1 ^^^ 2 ^ (d - 1)))) (I1 := s2 I1 7 d 0) (F := ((fR S).1, (fR S).2.1, (fR S).2.2.1 ^^^ 2 ^ (d - 1), updN (fR S).2.2.2 d 0)) hc (fun a h1 h2 => by rw [s2_row h1, e3 a h2]) (fun a h1 h2 => by rw [s2_row h1, e4 a h2]) (e5.same (s2_row (by decide)) (s2_row (by decide))) (by
          show FrC _ _ _ _ _ _ _
          unfold FrC
          rw [s2_ne (by decide), s2_ne (by decide), s2_e]
          refine ⟨h6.1, h6.2.1, rfl, fun e he => ?_⟩
          rw [s2_at]
          show _ = nI (updN (fR S).2.2.2 d 0 e)
          by_cases z : e = d
          · rw [if_pos ⟨rfl, z⟩, z, updN_e]; rfl
          · rw [if_neg (fun y => z y.2), updN_n z]
            exact h6.2.2.2 e he) (hw.pair qq)
        refine ⟨n', x', I', L, Q', D', ?_, by rw [if_pos q]; exact g2, g3⟩
        unfold f_X6_pair
        rw [liN, r_0_5, Option.bind_some, r_0_4, Option.bind_some, o_8, if_pos rfl, e1, Option.bind_some, r_0_4, Option.bind_some, o_6, if_pos rfl, e6, Option.bind_some, if_neg (nI_NO (pc_small _)), o_0, if_pos rfl, g1, Option.bind_some, if_pos q]
      · have qq : ¬ okP (fR S).2.2.1 d b := fun z => q (okPb_iff.mpr z)
        have e6 := hset.2 qq
        refine ⟨n, x1, I1, L, Q, D, ?_, by rw [if_neg q]; exact e2, SM.of (fun a h1 h2 => e3 a (by omega)) (fun a h1 h2 => e4 a (by omega))⟩
        unfold f_X6_pair
        rw [liN, r_0_5, Option.bind_some, r_0_4, Option.bind_some, o_8, if_pos rfl, e1, Option.bind_some, r_0_4, Option.bind_some, o_6, if_pos rfl, e6, Option.bind_some, if_pos rfl, if_neg q]
    · have hx : FrM0 I 66 (fR S).1 (fR S).2.1 (fR S).2.2.1 (fR S).2.2.2 := hm.2.2.1.m0
      have hw : WF (fR S).1 (fR S).2.1 (fR S).2.2.1 (fR S).2.2.2 := hb.1
      have hs : shp[66]? = some (0, 19) := rfl
      unfold f_X7_pair
      rw [liN, p_64_0, Option.bind_some, o_64, if_pos rfl, m_mayPair hx hw hd, Option.bind_some]
      by_cases q : okPb (fR S).2.2.1 d b = true
      · have qq := okPb_iff.mp q
        rw [if_neg (show ¬ bI (okPb (fR S).2.2.1 d b) = 0 by rw [bI_0, q]; decide), if_pos rfl]
        have hm0 : MI (s2 x 64 0 0) I S := hm.thrown
        obtain ⟨I1, g1, g2, g3⟩ := m_snap (n := n) (w := w) (L := L) (Q := Q) (D := D) hb.2.1 hm0.2.2.2.1.1 hm0.2.2.2.1.2 hm0.2.2.1
        have hp := hw.2.2.1
        have hlt : (fR S).2.2.1 ^^^ 2 ^ (d - 1) < 2 ^ 15 := Nat.xor_lt_two_pow hp (Nat.pow_lt_pow_right (by decide) (by have := qq.1; omega))
        have h66 : I1 66 = I 66 := g2 66 (by decide)
        have hx1 : FrM0 I1 66 (fR S).1 (fR S).2.1 (fR S).2.2.1 (fR S).2.2.2 := by unfold FrM0 at *; rw [h66]; exact hx
        rw [g1, Option.bind_some, o_64, if_pos rfl, m_turns hx1 qq.1, Option.bind_some, r_64_11, Option.bind_some, li2, m_at hs (by decide), Option.bind_some, s2_ne (by omega), s2_e, bitsN (by omega), Option.bind_some, if_pos q, if_pos q]
        exact ⟨_, w, _, rfl, hm0.act (I1 := I1) (F := ((fR S).1, (fR S).2.1, (fR S).2.2.1 ^^^ 2 ^ (d - 1), updN (fR S).2.2.2 d 0)) g2 g3 (fun a ha => by rw [s2_row ha, s2_row ha]) (FrO_pair hm.2.2.1 h66 qq.1), fun a ha => ⟨by rw [s2_row (by omega), s2_row (by omega)], by rw [s2_row (by omega), s2_row (by omega), g2 a (by omega)]⟩⟩
      · rw [if_pos (show bI (okPb (fR S).2.2.1 d b) = 0 by rw [bI_0]; simpa using q), if_neg q, if_neg q]
        exact ⟨_, w, I, rfl, hm.thrown, SC.s2x⟩
/-! pin -/
theorem m_isInS {h : Hp} {p c d : Nat} (hp : p < 2 ^ 31) (hc : c ≤ 18) (hd : d ≤ 15) : f_X7_isIn h (nI p) (nI 1) (nI c - nI d) = some (bI (decide (1 ≤ p ∧ p + d ≤ c))) := by
  by_cases q : d ≤ c
  · rw [pk_sub q, m_isIn hp (by decide) (by omega)]
    congr 2
    exact decide_eq_decide.mpr (by omega)
  · have hneg : nI c - nI d < 0 := pk_sneg (by omega) (by omega)
    unfold f_X7_isIn
    rw [show decide (1 ≤ p ∧ p + d ≤ c) = false by simp; omega]
    by_cases h1 : p < 1
    · rw [if_pos (nI_lt h1 (by decide))]; rfl
    · rw [if_neg (nI_nlt (by omega) hp), if_pos (neg_lt hneg hp)]; rfl
def pinI (k : Nat) : Int32 := match k with
  | 0 => 0
  | 1 => 1
  | 2 => 2
  | _ => NO
theorem FrO_pin {I I1 : Nat → Nat → Int32} {F : Fm} {d p : Nat} (ho : FrO I 66 0 F) (h66 : I1 66 = I 66) : FrO (s2 I1 66 (3 + d) (nI p)) 66 0 (F.1, F.2.1, F.2.2.1, updN F.2.2.2 d p) := by
  unfold FrO at *
  rw [s2_ne (by omega), s2_ne (by omega), s2_ne (by omega), h66]
  refine ⟨ho.1, ho.2.1, ho.2.2.1, fun e he => ?_⟩
  rw [s2_at, show 0 + 3 + e = 3 + e by omega]
  show _ = nI (updN F.2.2.2 d p e)
  by_cases q : e = d
  · rw [if_pos ⟨rfl, by omega⟩, q, updN_e]
  · rw [if_neg (by omega), updN_n q, h66]
    have := ho.2.2.2 e he
    rw [show 0 + 3 + e = 3 + e by omega] at this
    exact this
theorem pinA_lt {c ho pa d p : Nat} {f : Nat → Nat} : pinA c ho pa f d p = 0 ∨ pinA c ho pa f d p = 1 ∨ pinA c ho pa f d p = 2 ∨ pinA c ho pa f d p = 3 := by
  unfold pinA
  split
  · exact Or.inr (Or.inr (Or.inr rfl))
  · split
    · exact Or.inr (Or.inl rfl)
    · split
      · exact Or.inr (Or.inr (Or.inl rfl))
      · exact Or.inl rfl
theorem pinA_inv0 {c ho pa d p : Nat} {f : Nat → Nat} (h : pinA c ho pa f d p = 0) : pinOk c pa d p ∧ f d ≠ p ∧ (p = 0 ∨ pinFree ho f d p) := by
  by_cases h1 : pinOk c pa d p
  · by_cases h2 : f d = p
    · rw [pinA_1 h1 h2] at h; cases h
    · refine ⟨h1, h2, ?_⟩
      by_cases h3 : p = 0
      · exact Or.inl h3
      · by_cases h4 : pinFree ho f d p
        · exact Or.inr h4
        · rw [pinA_2 h1 h2 h3 h4] at h; cases h
  · rw [pinA_3 h1] at h; cases h
