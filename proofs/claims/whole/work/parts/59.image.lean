/-! image, kind, at, first -/
def imgS (S : St) (k : Nat) : St := (tL S, tB S, fL S, fR S, uN9 S, uF S, (fun i => if i = k then some (fR S) else iM S i), lN9 S, lR S)
/-- the class's part with a frame of an image written -/
theorem CI.image {PC : PCt} (hP : PCok PC) {n : Nat} {x : Nat → Nat → Int32} {w : Int64} {I : Nat → Nat → Int32} {L : Nat → Nat → Int64} {Q : Nat → Nat → Option Nat} {D : Nat → Bool} {x' I' : Nat → Nat → Int32} {S : St} {k a : Nat} (hc : CI PC n x I L Q D S) (hk : k < 2) (ha : Q 12 k = some a) (hx : ∀ b, b ≠ a → x' b = x b) (hI : ∀ b, b ≠ a + 1 → I' b = I b) (hfr : FrF x' I' a (fR S)) : CI PC n x' I' L Q D (imgS S k) := by
  obtain ⟨k1, k2, k3, k4, k5, ⟨e1, e2, t, e3, e4, e5⟩, k7, k8, k9⟩ := hc
  have had := k2.img hk ha
  have h81 := had.1
  have gx : ∀ b, b < 81 → x' b = x b := fun b hb => hx b (by omega)
  have gI : ∀ b, b < 81 → I' b = I b := fun b hb => hI b (by omega)
  refine ⟨k1, k2, ?_, ?_, ⟨k5.1, k5.2.same (gx 6 (by decide)) (gI 7 (by decide))⟩, ⟨e1, ?_, t, e3, ?_, fun j hj => ?_⟩, fun j hj => ?_, ⟨k8.1, ?_⟩, ?_⟩
  · rw [gx 0 (by decide), gI 1 (by decide)]; exact k3
  · rw [gx 0 (by decide)]; exact k4
  · rw [gx 10 (by decide)]; exact e2
  · rw [gx 10 (by decide)]; exact e4
  · obtain ⟨z1, b, z2, z3⟩ := e5 j hj
    have hba : b ≠ a := fun e => by
      subst e
      have := k2.2 ((t + 9 + j - uN9 S) % 8) (8 + k) b (by omega) (by omega) (by unfold rq; rw [if_pos (by omega)]; exact z2) (by unfold rq; rw [if_neg (by omega), show 8 + k - 8 = k by omega]; exact ha)
      omega
    exact ⟨z1, b, z2, z3.same (hx b hba) (hI _ (by omega))⟩
  · show (match (if j = k then some (fR S) else iM S j) with | none => _ | some G => _)
    by_cases q : j = k
    · subst q
      rw [if_pos rfl]
      exact ⟨k5.1, a, ha, hfr⟩
    · rw [if_neg q]
      have e := k7 j hj
      cases hi : iM S j with
      | none => rw [hi] at e; exact e
      | some G =>
        rw [hi] at e
        obtain ⟨z1, b, z2, z3⟩ := e
        have hba : b ≠ a := fun e => by
          subst e
          have := k2.2 (8 + j) (8 + k) b (by omega) (by omega) (by unfold rq; rw [if_neg (by omega), show 8 + j - 8 = j by omega]; exact z2) (by unfold rq; rw [if_neg (by omega), show 8 + k - 8 = k by omega]; exact ha)
          omega
        exact ⟨z1, b, z2, z3.same (hx b hba) (hI _ (by omega))⟩
  · have k8 := k8.2
    unfold LKC at *
    show x' 60 2 = lI (lN9 S) ∧ _
    rw [gx 60 (by decide), gI 61 (by decide), gI 62 (by decide)]
    exact k8
  · exact hP.2 _ _ _ _ _ _ _ (gx 14 (by decide)) (fun b h1 h2 => gI b (by omega)) rfl rfl k9
theorem PQ.addimg {n : Nat} {Q : Nat → Nat → Option Nat} {D : Nat → Bool} {k : Nat} (hD : DOK n D) (hQ : PQ Q D) (hk : k < 2) : PQ (u1 Q 12 (va_up (Q 12) k (some n))) (fun k => decide (k = n) || D k) := by
  have h81 := hD.1
  have hnD : isD (fun k => decide (k = n) || D k) n := ⟨h81, by simp, by show (decide (n + 1 = n) || D (n + 1)) = false; rw [hD.no (by omega)]; simp⟩
  have hrq : ∀ i, i < 10 → rq (u1 Q 12 (va_up (Q 12) k (some n))) i = if i = 8 + k then some n else rq Q i := by
    intro i hi
    unfold rq
    by_cases h8 : i < 8
    · rw [if_pos h8, if_pos h8, u1_n (by decide), if_neg (by omega)]
    · rw [if_neg h8, if_neg h8, u1_e]
      show (if i - 8 = k then _ else _) = _
      by_cases q : i = 8 + k
      · rw [if_pos q, if_pos (by omega)]
      · rw [if_neg q, if_neg (by omega)]
  refine ⟨fun i a hi e => ?_, fun i j a hi hj e1 e2 => ?_⟩
  · rw [hrq i hi] at e
    by_cases q : i = 8 + k
    · rw [if_pos q] at e
      cases e
      exact hnD
    · rw [if_neg q] at e
      exact (hQ.1 i a hi e).more hD
  · rw [hrq i hi] at e1
    rw [hrq j hj] at e2
    by_cases q : i = 8 + k
    · rw [if_pos q] at e1
      cases e1
      by_cases q2 : j = 8 + k
      · omega
      · rw [if_neg q2] at e2
        have := hD.2 n (hQ.1 j n hj e2).2.1
        omega
    · rw [if_neg q] at e1
      by_cases q2 : j = 8 + k
      · rw [if_pos q2] at e2
        cases e2
        have := hD.2 n (hQ.1 i n hi e1).2.1
        omega
      · rw [if_neg q2] at e2
        exact hQ.2 i j a hi hj e1 e2
theorem s_image {PC : PCt} (hP : PCok PC) : S_image (INVp PC) := by
  intro h hI a1
  rcases neg_or a1 with hq | ⟨k, hk, rfl⟩
  · refine both (fC := fun h => f_X6_image h 0 a1) (fM := fun h => f_X7_image h 64 a1) hP.sc (fun _ => 0) (fun S => S) (fun n x w I L Q D S hc => ⟨n, x, I, L, Q, D, ?_, hc, SM.rf⟩) (fun n x w I L Q D S hb hm => ⟨s2 x 64 0 0, w, I, ?_, hm.thrown, SC.s2x⟩) hI
    · unfold f_X6_image; rw [if_pos hq]
    · unfold f_X7_image
      rw [p_64_0, Option.bind_some, li0, m_isInN hq (by decide), Option.bind_some, if_pos (show (0 : Int32) = nI 0 from rfl)]
  · by_cases h2 : k < 2
    · refine both (fC := fun h => f_X6_image h 0 (nI k)) (fM := fun h => f_X7_image h 64 (nI k)) hP.sc (fun S => 1) (fun S => imgS S k) (fun n x w I L Q D S hc => ?_) (fun n x w I L Q D S hb hm => ?_) hI
      · unfold f_X6_image
        rw [if_neg (nI_pos hk), if_pos (show nI k < 2 from nI_lt (b := 2) h2 (by decide)), r_0_7, Option.bind_some, q_at (a := 12) (len := 2) rfl h2 (by decide), Option.bind_some]
        cases hi : Q 12 k with
        | some a =>
          have had := hc.2.1.img h2 hi
          obtain ⟨x1, I1, c1, c2, c3⟩ := c_copy (n := n) (x := x) (w := w) (I := I) (L := L) (Q := Q) (D := D) had.F (isF6 (D := D))
          have hx1 : ∀ b, b ≠ a → x1 b = x b := fun b hb => by funext j; rw [c2, if_neg (fun q => hb q.1)]
          have hI1 : ∀ b, b ≠ a + 1 → I1 b = I b := fun b hb => by funext j; rw [c3, if_neg (fun q => hb q.1)]
          have h81 := had.1
          rw [if_pos (show (some a).isSome = true from rfl), Option.bind_some, q_ref (a := 12) (len := 2) rfl h2 (by decide) hi, Option.bind_some, r_0_4, Option.bind_some, F_o had.F, if_pos rfl, c1, Option.bind_some]
          exact ⟨n, x1, I1, L, Q, D, rfl, hc.image hP (w := w) h2 hi hx1 hI1 (FrF_of (b := 6) (fun j hj => by rw [c2, if_pos ⟨rfl, hj⟩]) (fun e he => by rw [c3, if_pos ⟨rfl, he⟩]) hc.2.2.2.2.1.2), SM.of (fun b z1 z2 => hx1 b (by omega)) (fun b z1 z2 => hI1 b (by omega))⟩
        | none =>
          obtain ⟨k1, k2, k3, k4, k5, ⟨e1, e2, t, e3, e4, e5⟩, k7, k8, k9⟩ := id hc
          have h81 := k1.1
          have hnD : isD (fun k => decide (k = n) || D k) n := ⟨h81, by simp, by show (decide (n + 1 = n) || D (n + 1)) = false; rw [k1.no (by omega)]; simp⟩
          have hat : u1 Q 12 (va_up (Q 12) k (some n)) 12 k = some n := by rw [u1_e]; exact if_pos rfl
          have hDn : DOK (n + 2) (fun k => decide (k = n) || D k) := ⟨by omega, fun j hj => by
            have hj : (decide (j = n) || D j) = true := hj
            by_cases q : j = n
            · omega
            · have := k1.2 j (by simpa [q] using hj)
              omega⟩
          have hold : ∀ a, isD D a → u1 x n (fun _ => 0) a = x a ∧ u1 I (n + 1) (fun _ => 0) (a + 1) = I (a + 1) := by
            intro a ha
            have := k1.2 a ha.2.1
            exact ⟨u1_n (by omega), u1_n (by omega)⟩
          have gx : ∀ b, b < 81 → u1 x n (fun _ => 0) b = x b := fun b hb => u1_n (by omega)
          have gI : ∀ b, b < 81 → u1 I (n + 1) (fun _ => 0) b = I b := fun b hb => u1_n (by omega)
          obtain ⟨x1, I1, c1, c2, c3⟩ := c_copy (n := n + 2) (x := u1 x n (fun _ => 0)) (w := w) (I := u1 I (n + 1) (fun _ => 0)) (L := L) (Q := u1 Q 12 (va_up (Q 12) k (some n))) (D := fun k => decide (k = n) || D k) hnD.F (isF6)
          have hx1 : ∀ b, b ≠ n → x1 b = u1 x n (fun _ => 0) b := fun b hb => by funext j; rw [c2, if_neg (fun q => hb q.1)]
          have hI1 : ∀ b, b ≠ n + 1 → I1 b = u1 I (n + 1) (fun _ => 0) b := fun b hb => by funext j; rw [c3, if_neg (fun q => hb q.1)]
          have gx1 : ∀ b, b < 81 → x1 b = x b := fun b hb => by rw [hx1 b (by omega), gx b hb]
          have gI1 : ∀ b, b < 81 → I1 b = I b := fun b hb => by rw [hI1 b (by omega), gI b hb]
          have hold1 : ∀ a, isD D a → x1 a = x a ∧ I1 (a + 1) = I (a + 1) := by
            intro a ha
            have := k1.2 a ha.2.1
            exact ⟨by rw [hx1 a (by omega)]; exact (hold a ha).1, by rw [hI1 _ (by omega)]; exact (hold a ha).2⟩
          have hnew := c_newB (n := n) (x := x) (w := w) (I := I) (L := L) (Q := Q) (D := D) k1 (fun a h8 => (sQ h8 12 (nI k) a).bind fun h9 => (gR h9 0 6 7).bind fun x10 => (aR h9 4 x10 (nI k)).bind fun x11 => (gR h9 0 6 4).bind fun x12 => if oK h9 x11 2 = true then (f_X2_copy h9 x11 x12).bind fun h13 => some (((1 : Int32), h13)) else none)
          rw [if_neg (show ¬ (none : Option Nat).isSome = true by decide), Option.bind_some, hnew, q_set (a := 12) (len := 2) rfl h2 (by decide) hnD.F, Option.bind_some, r_0_7, Option.bind_some, q_ref (a := 12) (len := 2) rfl h2 (by decide) hat, Option.bind_some, r_0_4, Option.bind_some, F_o hnD.F, if_pos rfl, c1, Option.bind_some]
          refine ⟨n + 2, x1, I1, L, _, _, rfl, ⟨hDn, k2.addimg k1 h2, ?_, ?_, ⟨k5.1, k5.2.same (gx1 6 (by decide)) (gI1 7 (by decide))⟩, ⟨e1, ?_, t, e3, ?_, fun j hj => ?_⟩, fun j hj => ?_, ⟨k8.1, ?_⟩, ?_⟩, SM.of (fun b z1 z2 => gx1 b (by omega)) (fun b z1 z2 => gI1 b (by omega))⟩
          · rw [gx1 0 (by decide), gI1 1 (by decide)]; exact k3
          · rw [gx1 0 (by decide)]; exact k4
          · rw [gx1 10 (by decide)]; exact e2
          · rw [gx1 10 (by decide)]; exact e4
          · obtain ⟨z1, b, z2, z3⟩ := e5 j hj
            have hb := hold1 b (k2.ring (Nat.mod_lt _ (by decide)) z2)
            exact ⟨z1, b, by rw [u1_n (by decide)]; exact z2, z3.same hb.1 hb.2⟩
          · show (match (if j = k then some (fR S) else iM S j) with | none => _ | some G => _)
            by_cases q : j = k
            · subst q
              rw [if_pos rfl]
              exact ⟨k5.1, n, hat, FrF_of (b := 6) (fun i hi => by rw [c2, if_pos ⟨rfl, hi⟩]) (fun e he => by rw [c3, if_pos ⟨rfl, he⟩]) (k5.2.same (gx 6 (by decide)) (gI 7 (by decide)))⟩
            · rw [if_neg q]
              have e := k7 j hj
              have hqj : u1 Q 12 (va_up (Q 12) k (some n)) 12 j = Q 12 j := by rw [u1_e]; exact if_neg q
              cases hi : iM S j with
              | none => rw [hi] at e; show u1 Q 12 (va_up (Q 12) k (some n)) 12 j = none; rw [hqj]; exact e
              | some G =>
                rw [hi] at e
                obtain ⟨z1, b, z2, z3⟩ := e
                have hb := hold1 b (k2.img hj z2)
                exact ⟨z1, b, by rw [hqj]; exact z2, z3.same hb.1 hb.2⟩
          · have k8 := k8.2
            unfold LKC at *
            show x1 60 2 = lI (lN9 S) ∧ _
            rw [gx1 60 (by decide), gI1 61 (by decide), gI1 62 (by decide)]
            exact k8
          · exact hP.2 _ _ _ _ _ _ _ (gx1 14 (by decide)) (fun b h1 h2 => gI1 b (by omega)) rfl rfl k9
      · obtain ⟨k1, k2, k3, k4, k5, k6⟩ := id hm
        have hin : ¬ bI (decide (0 ≤ k ∧ k ≤ 1)) = 0 := by rw [bI_0]; simp; omega
        unfold f_X7_image
        rw [p_64_0, Option.bind_some, show f_X7_isIn (MM n (s2 x 64 0 0) w I L Q D) (nI k) 0 1 = _ from m_isIn (b := 0) (c := 1) hk (by decide) (by decide), Option.bind_some, if_neg hin, r_64_11, Option.bind_some, r_64_13, Option.bind_some, li19, pk_mul, li0, m_copy (a := 66) (b := 68) (la := 19) (lb := 38) rfl rfl (by decide) (by omega) (by decide) (by decide) (by decide), Option.bind_some, r_64_18, Option.bind_some, a_set (a := 73) (kd := 3) (len := 2) rfl (Or.inr (Or.inr rfl)) h2 (by decide), Option.bind_some]
        refine ⟨_, w, _, rfl, ⟨?_, ?_, ?_, ?_, fun j hj => ?_, ?_⟩, fun a ha => ⟨s2_row (by omega), by rw [s2_row (by omega), u1_n (by omega)]⟩⟩
        · rw [s2_ne (by decide), s2_row (by decide), u1_n (by decide)]; exact k1
        · rw [s2_ne (by decide)]; exact k2
        · unfold FrO at *
          rw [s2_row (by decide), u1_n (by decide)]; exact k3
        · unfold FrO at *
          rw [s2_ne (by decide), s2_row (show (69 : Nat) ≠ 73 by decide), u1_n (by decide)]; exact k4
        · show (match (if j = k then some (fR S) else iM S j) with | none => _ | some G => _)
          by_cases q : j = k
          · subst q
            rw [if_pos rfl]
            refine ⟨by rw [s2_e]; rfl, ?_⟩
            rw [FrO_iff]
            intro i hi
            rw [s2_row (by decide), u1_e, fb_put_in (by omega) (by omega), show 0 + (19 * j + i - 19 * j) = 0 + i by omega]
            exact FrO_iff.mp k3 i hi
          · rw [if_neg q]
            have e := k5 j hj
            have hr : s2 (u1 I 68 (fb_put (I 68) (fun k => I 66 (0 + k)) (19 * k) 19)) 73 k (vp_nar .boolean (nI 1)) 73 j = I 73 j := by rw [s2_ne (fun z => q z.2), u1_n (by decide)]
            cases hi : iM S j with
            | none => rw [hi] at e; exact hr.trans e
            | some G =>
              rw [hi] at e
              refine ⟨hr.trans e.1, ?_⟩
              rw [FrO_iff]
              intro i hi
              rw [s2_row (by decide), u1_e, fb_put_out (by omega)]
              exact FrO_iff.mp e.2 i hi
        · unfold LKM at *
          show s2 x 64 0 _ 64 28 = lI (lN9 S) ∧ _
          rw [s2_ne (by decide), s2_row (show (78 : Nat) ≠ 73 by decide), u1_n (by decide)]
          exact k6
    · refine both (fC := fun h => f_X6_image h 0 (nI k)) (fM := fun h => f_X7_image h 64 (nI k)) hP.sc (fun _ => 0) (fun S => S) (fun n x w I L Q D S hc => ⟨n, x, I, L, Q, D, ?_, hc, SM.rf⟩) (fun n x w I L Q D S hb hm => ⟨s2 x 64 0 0, w, I, ?_, hm.thrown, SC.s2x⟩) hI
      · unfold f_X6_image
        rw [if_neg (nI_pos hk), if_neg (show ¬ nI k < 2 from nI_nlt (b := 2) (by omega) hk)]
      · have hin : bI (decide (0 ≤ k ∧ k ≤ 1)) = 0 := by rw [bI_0]; simp; omega
        unfold f_X7_image
        rw [p_64_0, Option.bind_some, show f_X7_isIn (MM n (s2 x 64 0 0) w I L Q D) (nI k) 0 1 = _ from m_isIn (b := 0) (c := 1) hk (by decide) (by decide), Option.bind_some, if_pos hin]
