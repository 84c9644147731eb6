/-! acts: hole, pair, pin; undo, image, restore -/
def rowN (G : Fm) (j : Nat) : Int32 := if j = 0 then nI G.1 else if j = 1 then nI G.2.1 else if j = 2 then nI G.2.2.1 else nI (G.2.2.2 (j - 3))
theorem FrO_iff {I : Nat → Nat → Int32} {a o : Nat} {G : Fm} : FrO I a o G ↔ ∀ j, j < 19 → I a (o + j) = rowN G j := by
  constructor
  · intro h j hj
    unfold rowN
    rcases (show j = 0 ∨ j = 1 ∨ j = 2 ∨ 3 ≤ j by omega) with rfl | rfl | rfl | h3
    · exact h.1
    · exact h.2.1
    · exact h.2.2.1
    · rw [if_neg (by omega), if_neg (by omega), if_neg (by omega), ← h.2.2.2 (j - 3) (by omega), show o + 3 + (j - 3) = o + j by omega]
  · intro h
    refine ⟨h 0 (by decide), h 1 (by decide), h 2 (by decide), fun d hd => ?_⟩
    have := h (3 + d) (by omega)
    unfold rowN at this
    rw [if_neg (by omega), if_neg (by omega), if_neg (by omega), show 3 + d - 3 = d by omega, show o + (3 + d) = o + 3 + d by omega] at this
    exact this
section SNAP
variable {n : Nat} {x : Nat → Nat → Int32} {w : Int64} {I : Nat → Nat → Int32} {L : Nat → Nat → Int64} {Q : Nat → Nat → Option Nat} {D : Nat → Bool} {s : Nat} {U : Nat → Fm} {G : Fm}
theorem m_shift_l {R : Option Hp} (hR : ∀ fu, f_X7_snap_11 (fu + 1) 64 (nI 133) (MM n x w (u1 I 69 (fb_put (I 69) (fun k => I 69 (k + 19)) 0 133)) L Q D) = R) : ∀ (j u fu : Nat), u + j = 133 → j < fu → f_X7_snap_11 fu 64 (nI u) (MM n x w (u1 I 69 (fb_put (I 69) (fun k => I 69 (k + 19)) 0 u)) L Q D) = R := by
  intro j
  induction j with
  | zero =>
    intro u fu hu hfu
    obtain ⟨fu, rfl⟩ : ∃ n9, fu = n9 + 1 := ⟨fu - 1, by omega⟩
    obtain rfl : u = 133 := by omega
    exact hR fu
  | succ j ih =>
    intro u fu hu hfu
    obtain ⟨fu, rfl⟩ : ∃ n9, fu = n9 + 1 := ⟨fu - 1, by omega⟩
    rw [f_X7_snap_11, li133, if_neg (nI_ge (by omega) (by decide)), r_64_14, Option.bind_some, Option.bind_some, li19, nI_add, a_at (a := 69) (len := 152) rfl (Or.inl rfl) (by omega) (by decide), Option.bind_some, a_set (a := 69) (len := 152) rfl (Or.inl rfl) (by omega) (by decide), Option.bind_some, s2_u1, u1_e, fb_put_out (by omega), li1, nI_add]
    have := fb_put_succ (I 69) (fun k => I 69 (k + 19)) 0 u
    rw [Nat.zero_add] at this
    rw [this]
    exact ih (u + 1) fu (by omega) (by omega)
theorem m_snap (hs : s ≤ 8) (hx : x 64 19 = nI s) (hU : ∀ k, k < s → FrO I 69 (19 * k) (U k)) (hG : FrO I 66 0 G) : ∃ I', f_X7_snap (MM n x w I L Q D) 64 = some (MM n (s2 x 64 19 (nI (addN s))) w I' L Q D) ∧ (∀ a, a ≠ 69 → I' a = I a) ∧ ∀ k, k < addN s → FrO I' 69 (19 * k) (addU s U G k) := by
  unfold f_X7_snap
  rw [g_64_19, Option.bind_some, hx]
  by_cases h8 : s = 8
  · subst h8
    rw [if_pos (show nI 8 = 8 from rfl)]
    have hR : ∀ fu, f_X7_snap_11 (fu + 1) 64 (nI 133) (MM n x w (u1 I 69 (fb_put (I 69) (fun k => I 69 (k + 19)) 0 133)) L Q D) = some (MM n (s2 x 64 19 (nI 8)) w (u1 I 69 (fb_put (fb_put (I 69) (fun k => I 69 (k + 19)) 0 133) (fun k => I 66 (0 + k)) 133 19)) L Q D) := by
      intro fu
      rw [f_X7_snap_11, li133, if_pos (nI_le (Nat.le_refl _) (by decide)), g_64_19, Option.bind_some, hx, li1, pk_sub (by decide), p_64_19, Option.bind_some, r_64_11, Option.bind_some, r_64_14, Option.bind_some, g_64_19, Option.bind_some, s2_e, li19, pk_mul, li0, m_copy (a := 66) (b := 69) (la := 19) (lb := 152) rfl rfl (by decide) (by decide) (by decide) (by decide) (by decide), Option.bind_some, g_64_19, Option.bind_some, s2_e, nI_add, p_64_19, Option.bind_some, s2_s2, u1_u1, u1_e, u1_n (show (66 : Nat) ≠ 69 by decide)]
    have h0 := m_shift_l hR 133 0 4096 (by decide) (by decide)
    rw [fb_put_0, u1_same] at h0
    refine ⟨_, h0, fun a ha => u1_n ha, fun k hk => ?_⟩
    have hk : k < 8 := hk
    rw [FrO_iff]
    intro j hj
    rw [u1_e]
    unfold addU
    rw [if_neg (by decide)]
    by_cases h7 : k < 7
    · rw [if_pos h7, fb_put_out (by omega), fb_put_in (by omega) (by omega), show 19 * k + j - 0 + 19 = 19 * (k + 1) + j by omega]
      exact FrO_iff.mp (hU (k + 1) (by omega)) j hj
    · rw [if_neg h7, fb_put_in (by omega) (by omega), show 0 + (19 * k + j - 133) = 0 + j by omega]
      exact FrO_iff.mp hG j hj
  · rw [if_neg (show ¬ nI s = 8 from fun e => h8 ((nI_eq (b := 8) (by omega) (by decide)).mp e)), r_64_11, Option.bind_some, r_64_14, Option.bind_some, Option.bind_some, li19, pk_mul, li0, m_copy (a := 66) (b := 69) (la := 19) (lb := 152) rfl rfl (by decide) (by omega) (by decide) (by decide) (by decide), Option.bind_some, g_64_19, Option.bind_some, hx, li1, nI_add, p_64_19, Option.bind_some]
    have ha : addN s = s + 1 := by unfold addN; rw [if_pos (by omega)]
    rw [ha]
    refine ⟨_, rfl, fun a ha => u1_n ha, fun k hk => ?_⟩
    rw [FrO_iff]
    intro j hj
    rw [u1_e]
    unfold addU
    rw [if_pos (by omega)]
    by_cases h7 : k < s
    · rw [if_pos h7, fb_put_out (Or.inl (by omega))]
      exact FrO_iff.mp (hU k h7) j hj
    · obtain rfl : k = s := by omega
      rw [if_neg h7, fb_put_in (by omega) (by omega), show 0 + (19 * k + j - 19 * k) = 0 + j by omega]
      exact FrO_iff.mp hG j hj
end SNAP
/-- the model's part behind an act: the frame's row written anew -/
theorem MI.act {x I I1 I' : Nat → Nat → Int32} {S : St} {F : Fm} (k : MI x I S) (h1 : ∀ a, a ≠ 69 → I1 a = I a) (h2 : ∀ k, k < addN (uN9 S) → FrO I1 69 (19 * k) (addU (uN9 S) (uF S) (fR S) k)) (h3 : ∀ a, a ≠ 66 → I' a = I1 a) (h4 : FrO I' 66 0 F) : MI (s2 x 64 19 (nI (addN (uN9 S)))) I' (actS S F) := by
  obtain ⟨k1, k2, k3, k4, k5, k6⟩ := k
  have g : ∀ a, a ≠ 66 → a ≠ 69 → I' a = I a := fun a ha hb => by rw [h3 a ha, h1 a hb]
  refine ⟨?_, ?_, h4, ⟨s2_e, fun k hk => ?_⟩, ?_, ?_⟩
  · rw [s2_ne (by decide), g 65 (by decide) (by decide)]; exact k1
  · rw [s2_ne (by decide)]; exact k2
  · have := h2 k hk
    unfold FrO at *
    rw [h3 69 (by decide)]
    exact this
  · intro k hk
    have e := k5 k hk
    unfold FrO at *
    rw [g 73 (by decide) (by decide), g 68 (by decide) (by decide)]
    exact e
  · unfold LKM at *
    show s2 x 64 19 _ 64 28 = lI (lN9 S) ∧ _
    rw [s2_ne (by decide), g 78 (by decide) (by decide)]
    exact k6
def okHb (c ho : Nat) (f : Nat → Nat) (p : Nat) (b : Bool) : Bool := decide (1 ≤ p ∧ p ≤ c) && (ho.testBit (p - 1) != b) && !(pinM f 0 15).testBit (p - 1)
theorem okHb_iff {c ho : Nat} {f : Nat → Nat} {p : Nat} {b : Bool} : okHb c ho f p b = true ↔ okH c ho f p b := by
  unfold okHb okH
  rw [Bool.and_eq_true, Bool.and_eq_true, decide_eq_true_iff, bne_iff_ne, Bool.not_eq_true', and_assoc]
def okPb (pa d : Nat) (b : Bool) : Bool := decide (1 ≤ d ∧ d ≤ 15) && (pa.testBit (d - 1) != b) && (!b || decide (pc pa < 9))
theorem okPb_iff {pa d : Nat} {b : Bool} : okPb pa d b = true ↔ okP pa d b := by
  unfold okPb okP
  rw [Bool.and_eq_true, Bool.and_eq_true, decide_eq_true_iff, bne_iff_ne, and_assoc]
  cases b <;> simp
/-- the class's frame and the copy ahead of an act -/
theorem c_before {PC : PCt} (hP : PCok PC) {n : Nat} {x : Nat → Nat → Int32} {w : Int64} {I : Nat → Nat → Int32} {L : Nat → Nat → Int64} {Q : Nat → Nat → Option Nat} {D : Nat → Bool} {S : St} (k : CI PC n x I L Q D S) : ∃ x1 I1, f_X2_copy (MM n x w I L Q D) 8 6 = some (MM n x1 w I1 L Q D) ∧ CI PC n x1 I1 L Q D S ∧ (∀ a, a ≠ 8 → x1 a = x a) ∧ (∀ a, a ≠ 9 → I1 a = I a) ∧ FrF x1 I1 8 (fR S) := by
  obtain ⟨x1, I1, e1, e2, e3⟩ := c_copy (n := n) (x := x) (w := w) (I := I) (L := L) (Q := Q) (D := D) (isF8 (D := D)) (isF6 (D := D))
  have hx : ∀ a, a ≠ 8 → x1 a = x a := fun a ha => by funext j; rw [e2, if_neg (fun q => ha q.1)]
  have hI : ∀ a, a ≠ 9 → I1 a = I a := fun a ha => by funext j; rw [e3, if_neg (fun q => ha q.1)]
  refine ⟨x1, I1, e1, k.before hP hx hI, hx, hI, ?_⟩
  have h6 : FrC x I 6 _ _ _ _ := k.2.2.2.2.1.2
  show FrC _ _ _ _ _ _ _
  unfold FrC
  rw [e2, e2, e2, if_pos ⟨rfl, by decide⟩, if_pos ⟨rfl, by decide⟩, if_pos ⟨rfl, by decide⟩]
  refine ⟨h6.1, h6.2.1, h6.2.2.1, fun d hd => ?_⟩
  rw [e3, if_pos ⟨rfl, hd⟩]
  exact h6.2.2.2 d hd
theorem SM.of {x I x' I' : Nat → Nat → Int32} (hx : ∀ a, 64 ≤ a → a < 80 → x' a = x a) (hI : ∀ a, 64 ≤ a → a < 80 → I' a = I a) : SM x I x' I' := fun a h1 h2 => ⟨hx a h1 h2, hI a h1 h2⟩
theorem s_hole {PC : PCt} (hP : PCok PC) : S_hole (INVp PC) := by
  intro h hI a1 a2 ha2
  obtain ⟨b, rfl⟩ : ∃ b, a2 = bI b := by rcases ha2 with rfl | rfl; exact ⟨false, rfl⟩; exact ⟨true, rfl⟩
  rcases neg_or a1 with hq | ⟨p, hp, rfl⟩
  · refine both (fC := fun h => f_X6_hole h 0 a1 (bI b)) (fM := fun h => f_X7_hole h 64 a1 (bI b)) hP.sc (fun _ => NO) (fun S => S) (fun n x w I L Q D S hc => ?_) (fun n x w I L Q D S hb hm => ⟨s2 x 64 0 0, w, I, ?_, hm.thrown, SC.s2x⟩) hI
    · obtain ⟨x1, I1, e1, e2, e3, e4, e5⟩ := c_before hP (w := w) hc
      refine ⟨n, x1, I1, L, Q, D, ?_, e2, SM.of (fun a h1 h2 => e3 a (by omega)) (fun a h1 h2 => e4 a (by omega))⟩
      unfold f_X6_hole
      rw [liN, r_0_5, Option.bind_some, r_0_4, Option.bind_some, o_8, if_pos rfl, e1, Option.bind_some, r_0_4, Option.bind_some, o_6, if_pos rfl, c_setHoleN isF6 hq, Option.bind_some, if_pos rfl]
    · unfold f_X7_hole f_X7_mayHole
      rw [liN, p_64_0, Option.bind_some, o_64, if_pos rfl, r_64_11, Option.bind_some, li0, m_at (a := 66) rfl (by decide), Option.bind_some, li1, m_isInN hq (by decide), Option.bind_some, if_pos (show (0 : Int32) = nI 0 from rfl), Option.bind_some, if_pos rfl]
  · refine both (fC := fun h => f_X6_hole h 0 (nI p) (bI b)) (fM := fun h => f_X7_hole h 64 (nI p) (bI b)) hP.sc (fun S => if okHb (fR S).1 (fR S).2.1 (fR S).2.2.2 p b = true then nI (pc ((fR S).2.1 ^^^ 2 ^ (p - 1))) else NO) (fun S => if okHb (fR S).1 (fR S).2.1 (fR S).2.2.2 p b = true then actS S ((fR S).1, (fR S).2.1 ^^^ 2 ^ (p - 1), (fR S).2.2) else S) (fun n x w I L Q D S hc => ?_) (fun n x w I L Q D S hb hm => ?_) hI
    · obtain ⟨x1, I1, e1, e2, e3, e4, e5⟩ := c_before hP (w := w) hc
      have hw : WF (fR S).1 (fR S).2.1 (fR S).2.2.1 (fR S).2.2.2 := hc.2.2.2.2.1.1
      have h6 : FrC x1 I1 6 (fR S).1 (fR S).2.1 (fR S).2.2.1 (fR S).2.2.2 := e2.2.2.2.2.1.2
      have hset := c_setHole (n := n) (w := w) (L := L) (Q := Q) (D := D) (p := p) (b := b) isF6 h6 hw hp
      by_cases q : okHb (fR S).1 (fR S).2.1 (fR S).2.2.2 p b = true
      · have qq := okHb_iff.mp q
        have e6 := hset.1 qq
        have hlt := pcN_le 18 ((fR S).2.1 ^^^ 2 ^ (p - 1))
        obtain ⟨n', x', I', Q', D', g1, g2, g3, g4⟩ := c_acted hP (w := w) (x1 := s2 x1 6 1 (nI ((fR S).2.1 ^^^ 2 ^ (p - 1)))) (I1 := I1) (F := ((fR S).1, (fR S).2.1 ^^^ 2 ^ (p - 1), (fR S).2.2)) hc (fun a h1 h2 => by rw [s2_row h1, e3 a h2]) (fun a h1 h2 => e4 a h2) (e5.same (s2_row (by decide)) rfl) (by
          show FrC _ _ _ _ _ _ _
          unfold FrC
          rw [s2_ne (by decide), s2_e, s2_ne (by decide)]
          exact ⟨h6.1, rfl, h6.2.2.1, h6.2.2.2⟩) (hw.hole qq)
        refine ⟨n', x', I', L, Q', D', ?_, by rw [if_pos q]; exact g2, g3⟩
        unfold f_X6_hole
        rw [liN, r_0_5, Option.bind_some, r_0_4, Option.bind_some, o_8, if_pos rfl, e1, Option.bind_some, r_0_4, Option.bind_some, o_6, if_pos rfl, e6, Option.bind_some]
        have hne : ¬ nI (pc ((fR S).2.1 ^^^ 2 ^ (p - 1))) = NO := fun z => by
          have : nI (pc ((fR S).2.1 ^^^ 2 ^ (p - 1))) < 0 := by rw [z]; decide
          exact nI_pos (by have : pc ((fR S).2.1 ^^^ 2 ^ (p - 1)) = pcN 18 ((fR S).2.1 ^^^ 2 ^ (p - 1)) := rfl; omega) this
        rw [if_neg hne, o_0, if_pos rfl, g1, Option.bind_some, if_pos q]
      · have qq : ¬ okH (fR S).1 (fR S).2.1 (fR S).2.2.2 p b := fun z => q (okHb_iff.mpr z)
        have e6 := hset.2 qq
        refine ⟨n, x1, I1, L, Q, D, ?_, by rw [if_neg q]; exact e2, SM.of (fun a h1 h2 => e3 a (by omega)) (fun a h1 h2 => e4 a (by omega))⟩
        unfold f_X6_hole
        rw [liN, r_0_5, Option.bind_some, r_0_4, Option.bind_some, o_8, if_pos rfl, e1, Option.bind_some, r_0_4, Option.bind_some, o_6, if_pos rfl, e6, Option.bind_some, if_pos rfl, if_neg q]
    · have hx : FrM0 I 66 (fR S).1 (fR S).2.1 (fR S).2.2.1 (fR S).2.2.2 := hm.2.2.1.m0
      have hw : WF (fR S).1 (fR S).2.1 (fR S).2.2.1 (fR S).2.2.2 := hb.1
      have hs : shp[66]? = some (0, 19) := rfl
      have hc18 := hw.1
      have hh := hw.ho18
      have hpm := pinM_lt (f := (fR S).2.2.2) 0 15 (fun d hd => hw.f18 (by omega))
      have hmay : f_X7_mayHole (MM n (s2 x 64 0 0) w I L Q D) 64 (nI p) (bI b) = some (bI (okHb (fR S).1 (fR S).2.1 (fR S).2.2.2 p b)) := by
        unfold f_X7_mayHole okHb
        rw [r_64_11, Option.bind_some, li0, m_at hs (by decide), Option.bind_some, hx.1, li1, m_isIn hp (by decide) (by omega), Option.bind_some, Option.bind_some, m_at hs (by decide), Option.bind_some, hx.2.1, Option.bind_some, m_pins hs hx hw (by decide), Option.bind_some]
        by_cases h1 : 1 ≤ p ∧ p ≤ (fR S).1
        · rw [if_neg (show ¬ bI (decide (1 ≤ p ∧ p ≤ (fR S).1)) = nI 0 by rw [← li0, bI_0]; simpa using h1), pk_sub h1.1, hasN (by omega) (by omega), Option.bind_some, hasN (by omega) (by omega), Option.bind_some, ite_bI, ite_bI]
          simp only [Bool.decide_eq_true]
          by_cases h2 : (fR S).2.1.testBit (p - 1) = b
          · rw [if_pos (bI_eq.mpr h2), h2]
            simp [h1, bI]
            rfl
          · rw [if_neg (fun z => h2 (bI_eq.mp z))]
            cases h3 : (pinM (fR S).2.2.2 0 15).testBit (p - 1) with
            | true => rw [if_neg (by decide)]; simp [h1, bI]; rfl
            | false => rw [if_pos (by decide)]; simp [h1, h2, bI]; rfl
        · rw [if_pos (show bI (decide (1 ≤ p ∧ p ≤ (fR S).1)) = nI 0 by rw [← li0, bI_0]; simpa using h1)]
          simp [h1, bI]
          rfl
      unfold f_X7_hole
      rw [liN, p_64_0, Option.bind_some, o_64, if_pos rfl, hmay, Option.bind_some]
      by_cases q : okHb (fR S).1 (fR S).2.1 (fR S).2.2.2 p b = true
      · have qq := okHb_iff.mp q
        rw [if_neg (show ¬ bI (okHb (fR S).1 (fR S).2.1 (fR S).2.2.2 p b) = 0 by rw [bI_0, q]; decide), if_pos rfl]
        have hm0 : MI (s2 x 64 0 0) I S := hm.thrown
        obtain ⟨I1, g1, g2, g3⟩ := m_snap (n := n) (w := w) (L := L) (Q := Q) (D := D) hb.2.1 hm0.2.2.2.1.1 hm0.2.2.2.1.2 hm0.2.2.1
        have hlt : (fR S).2.1 ^^^ 2 ^ (p - 1) < 2 ^ 18 := Nat.xor_lt_two_pow hh (Nat.pow_lt_pow_right (by decide) (by have := qq.1; omega))
        have h66 : I1 66 = I 66 := g2 66 (by decide)
        rw [g1, Option.bind_some, r_64_11, Option.bind_some, li1, m_at hs (by decide), Option.bind_some, h66, hx.2.1, m_shl qq.1.1 (by have := qq.1; omega), fb_xorI, m_set hs (by decide), Option.bind_some, r_64_11, Option.bind_some, m_at hs (by decide), Option.bind_some, s2_e, bitsN hlt, Option.bind_some, if_pos q, if_pos q]
        refine ⟨_, w, _, rfl, hm0.act (I1 := I1) (I' := s2 I1 66 1 (nI ((fR S).2.1 ^^^ 2 ^ (p - 1)))) (F := ((fR S).1, (fR S).2.1 ^^^ 2 ^ (p - 1), (fR S).2.2)) g2 g3 (fun a ha => s2_row ha) ?_, fun a ha => ⟨by rw [s2_row (by omega), s2_row (by omega)], by rw [s2_row (by omega), g2 a (by omega)]⟩⟩
        have ho := hm.2.2.1
        unfold FrO at *
        rw [s2_ne (by decide), show (0 : Nat) + 1 = 1 from rfl, s2_e, s2_ne (by decide), h66]
        refine ⟨ho.1, rfl, ho.2.2.1, fun d hd => ?_⟩
        rw [s2_ne (by omega), h66]
        exact ho.2.2.2 d hd
      · rw [if_pos (show bI (okHb (fR S).1 (fR S).2.1 (fR S).2.2.2 p b) = 0 by rw [bI_0]; simpa using q), if_neg q, if_neg q]
        exact ⟨_, w, I, rfl, hm.thrown, SC.s2x⟩
