/-! feed, end, fault -/
abbrev PCt : Type := (Nat → Nat → Int32) → (Nat → Nat → Int32) → (Nat → Nat → Int64) → Fm → Prop
def PCok (PC : PCt) : Prop := (∀ x I L F, x 14 5 = 0 → PC x I L F) ∧ ∀ (x I : Nat → Nat → Int32) (L : Nat → Nat → Int64) (x' I' : Nat → Nat → Int32) (L' : Nat → Nat → Int64) F, x' 14 = x 14 → (∀ a, 15 ≤ a → a < 36 → I' a = I a) → L' 35 = L 35 → L' 15 = L 15 → PC x I L F → PC x' I' L' F
theorem PCok.sc {PC : PCt} (h : PCok PC) : ∀ x I x' I' L F, SC x I x' I' → PC x I L F → PC x' I' L F := fun x I x' I' L F hs k => h.2 x I L x' I' L F (hs 14 (by omega)).1 (fun a h1 h2 => (hs a (by omega)).2) rfl rfl k
/-- a byte of a number -/
def byt (z : Int32) : Nat := z.toBitVec.toNat % 256
theorem byt_lt (z : Int32) : byt z < 256 := Nat.mod_lt _ (by decide)
theorem byt_and (z : Int32) : z &&& 255 = nI (byt z) := pk_and z 8 (by decide)
theorem byt_b (z : Int32) : z.toInt8.toInt32 = byN (byt z) := by
  unfold byN
  rw [← byt_and, fa_byte_low]
def shf (k : Nat) : Int32 := nI (24 - 8 * k)
/-- a tape with a number's four bytes behind it -/
def app4 (b : Nat → Nat) (t : Nat) (z : Int32) : Nat → Nat := fun j => if j < t then b j else byt (ushr z (shf (j - t)))
theorem s2_s2 {x : Nat → Nat → Int32} {a k : Nat} {v u : Int32} : s2 (s2 x a k v) a k u = s2 x a k u := by
  funext b j
  rw [s2_at, s2_at, s2_at]
  by_cases h : b = a ∧ j = k
  · rw [if_pos h, if_pos h]
  · rw [if_neg h, if_neg h, if_neg h]
theorem s2_ne {x : Nat → Nat → Int32} {a k b j : Nat} {v : Int32} (h : ¬ (b = a ∧ j = k)) : s2 x a k v b j = x b j := by rw [s2_at, if_neg h]
theorem s2_row {x : Nat → Nat → Int32} {a k b : Nat} {v : Int32} (h : b ≠ a) : s2 x a k v b = x b := by
  funext j
  rw [s2_at, if_neg (fun e => h e.1)]
section TAPE
variable {n : Nat} {x : Nat → Nat → Int32} {w : Int64} {I : Nat → Nat → Int32} {L : Nat → Nat → Int64} {Q : Nat → Nat → Option Nat} {D : Nat → Bool}
theorem c_fstep {z v2 : Int32} {t fu : Nat} (hv : ¬ v2 < 0) (hx : x 0 1 = nI t) (ht : t < 340) : f_X6_feedNumber_3 (fu + 1) 0 z v2 (MM n x w I L Q D) = f_X6_feedNumber_3 fu 0 z (v2 + (-8)) (MM n (s2 x 0 1 (nI (t + 1))) w (s2 I 1 t (byN (byt (ushr z v2)))) L Q D) := by
  rw [f_X6_feedNumber_3, if_neg hv, g_0_1, Option.bind_some, hx, li340, if_neg (nI_ge ht (by decide)), r_0_0, Option.bind_some, Option.bind_some, pk_vb, byt_b, a_set (len := 340) rfl (Or.inr (Or.inl rfl)) ht (by decide), Option.bind_some, g_0_1, Option.bind_some, hx, li1, nI_add, p_0_1, Option.bind_some]
theorem c_feedN {z : Int32} {t : Nat} {b : Nat → Nat} (ht : t + 4 ≤ 340) (hx : x 0 1 = nI t) (hb : ∀ j, j < t → I 1 j = byN (b j)) : ∃ I', f_X6_feedNumber (MM n x w I L Q D) 0 z = some (MM n (s2 x 0 1 (nI (t + 4))) w I' L Q D) ∧ (∀ a, a ≠ 1 → I' a = I a) ∧ ∀ j, j < t + 4 → I' 1 j = byN (app4 b t z j) := by
  refine ⟨s2 (s2 (s2 (s2 I 1 t (byN (byt (ushr z (shf 0))))) 1 (t + 1) (byN (byt (ushr z (shf 1))))) 1 (t + 2) (byN (byt (ushr z (shf 2))))) 1 (t + 3) (byN (byt (ushr z (shf 3)))), ?_, ?_, ?_⟩
  · unfold f_X6_feedNumber
    rw [c_fstep (fu := 4095) (by decide) hx (by omega), c_fstep (fu := 4094) (t := t + 1) (by decide) s2_e (by omega), s2_s2, c_fstep (fu := 4093) (t := t + 2) (by decide) s2_e (by omega), s2_s2, c_fstep (fu := 4092) (t := t + 3) (by decide) s2_e (by omega), s2_s2, f_X6_feedNumber_3, if_pos (by decide)]
    rfl
  · intro a ha
    rw [s2_row ha, s2_row ha, s2_row ha, s2_row ha]
  · intro j hj
    unfold app4
    simp only [s2_at, true_and]
    rcases (show j < t ∨ j = t ∨ j = t + 1 ∨ j = t + 2 ∨ j = t + 3 by omega) with h | rfl | rfl | rfl | rfl
    · rw [if_neg (by omega), if_neg (by omega), if_neg (by omega), if_neg (by omega), if_pos h, hb j h]
    · rw [if_neg (by omega), if_neg (by omega), if_neg (by omega), if_pos rfl, if_neg (by omega), Nat.sub_self]
    · rw [if_neg (by omega), if_neg (by omega), if_pos rfl, if_neg (by omega), show t + 1 - t = 1 by omega]
    · rw [if_neg (by omega), if_pos rfl, if_neg (by omega), show t + 2 - t = 2 by omega]
    · rw [if_pos rfl, if_neg (by omega), show t + 3 - t = 3 by omega]
theorem m_fstep {z v2 : Int32} {t fu : Nat} (hv : ¬ v2 < 0) (hx : x 64 2 = nI t) (ht : t < 340) : f_X7_lay_3 (fu + 1) 64 z v2 (MM n x w I L Q D) = f_X7_lay_3 fu 64 z (v2 + (-8)) (MM n (s2 x 64 2 (nI (t + 1))) w (s2 I 65 t (nI (byt (ushr z v2)))) L Q D) := by
  rw [f_X7_lay_3, if_neg hv, r_64_1, Option.bind_some, g_64_2, Option.bind_some, hx, byt_and, a_set (len := 340) rfl (Or.inl rfl) ht (by decide), Option.bind_some, g_64_2, Option.bind_some, hx, li1, nI_add, p_64_2, Option.bind_some]
theorem m_lay {z : Int32} {t : Nat} {b : Nat → Nat} (ht : t + 4 ≤ 340) (hx : x 64 2 = nI t) (hb : ∀ j, j < t → I 65 j = nI (b j)) : ∃ I', f_X7_lay (MM n x w I L Q D) 64 z = some (MM n (s2 x 64 2 (nI (t + 4))) w I' L Q D) ∧ (∀ a, a ≠ 65 → I' a = I a) ∧ ∀ j, j < t + 4 → I' 65 j = nI (app4 b t z j) := by
  refine ⟨s2 (s2 (s2 (s2 I 65 t (nI (byt (ushr z (shf 0))))) 65 (t + 1) (nI (byt (ushr z (shf 1))))) 65 (t + 2) (nI (byt (ushr z (shf 2))))) 65 (t + 3) (nI (byt (ushr z (shf 3)))), ?_, ?_, ?_⟩
  · unfold f_X7_lay
    rw [m_fstep (fu := 4095) (by decide) hx (by omega), m_fstep (fu := 4094) (t := t + 1) (by decide) s2_e (by omega), s2_s2, m_fstep (fu := 4093) (t := t + 2) (by decide) s2_e (by omega), s2_s2, m_fstep (fu := 4092) (t := t + 3) (by decide) s2_e (by omega), s2_s2, f_X7_lay_3, if_pos (by decide)]
    rfl
  · intro a ha
    rw [s2_row ha, s2_row ha, s2_row ha, s2_row ha]
  · intro j hj
    unfold app4
    simp only [s2_at, true_and]
    rcases (show j < t ∨ j = t ∨ j = t + 1 ∨ j = t + 2 ∨ j = t + 3 by omega) with h | rfl | rfl | rfl | rfl
    · rw [if_neg (by omega), if_neg (by omega), if_neg (by omega), if_neg (by omega), if_pos h, hb j h]
    · rw [if_neg (by omega), if_neg (by omega), if_neg (by omega), if_pos rfl, if_neg (by omega), Nat.sub_self]
    · rw [if_neg (by omega), if_neg (by omega), if_pos rfl, if_neg (by omega), show t + 1 - t = 1 by omega]
    · rw [if_neg (by omega), if_pos rfl, if_neg (by omega), show t + 2 - t = 2 by omega]
    · rw [if_pos rfl, if_neg (by omega), show t + 3 - t = 3 by omega]
end TAPE
/-- the class's part with another tape -/
theorem CI.tape {PC : PCt} (hP : PCok PC) {n : Nat} {x I I' : Nat → Nat → Int32} {L : Nat → Nat → Int64} {Q : Nat → Nat → Option Nat} {D : Nat → Bool} {S : St} {t : Nat} {b : Nat → Nat} (k : CI PC n x I L Q D S) (ht : t ≤ 340) (hI : ∀ a, a ≠ 1 → I' a = I a) (hb : ∀ j, j < t → b j < 256 ∧ I' 1 j = byN (b j)) : CI PC n (s2 x 0 1 (nI t)) I' L Q D (t, b, S.2.2) := by
  obtain ⟨k1, k2, k3, k4, k5, k6, k7, k8, k9⟩ := k
  have g : ∀ a, a ≠ 0 → s2 x 0 1 (nI t) a = x a := fun a ha => s2_row ha
  refine ⟨k1, k2, ⟨ht, s2_e, hb⟩, ?_, ⟨k5.1, k5.2.same (g 6 (by decide)) (hI 7 (by decide))⟩, ?_, ?_, ⟨k8.1, ?_⟩, ?_⟩
  · rw [s2_ne (by decide)]; exact k4
  · rw [g 10 (by decide)]
    obtain ⟨e1, e2, t, e3, e4, e5⟩ := k6
    refine ⟨e1, e2, t, e3, e4, fun k hk => ?_⟩
    obtain ⟨e6, a, e7, e8⟩ := e5 k hk
    have := (k2.ring (Nat.mod_lt _ (by decide)) e7).1
    exact ⟨e6, a, e7, e8.same (g a (by omega)) (hI _ (by omega))⟩
  · intro k hk
    have e := k7 k hk
    show (match iM S k with | none => _ | some G => _)
    cases hi : iM S k with
    | none => rw [hi] at e; exact e
    | some G =>
      rw [hi] at e
      obtain ⟨e6, a, e7, e8⟩ := e
      have := (k2.img hk e7).1
      exact ⟨e6, a, e7, e8.same (g a (by omega)) (hI _ (by omega))⟩
  · unfold LKC at *
    rw [g 60 (by decide), hI 61 (by decide), hI 62 (by decide)]
    exact k8.2
  · exact hP.2 _ _ _ _ _ _ _ (g 14 (by decide)) (fun a h1 h2 => hI a (by omega)) rfl rfl k9
theorem MI.tape {x I I' : Nat → Nat → Int32} {S : St} {t : Nat} {b : Nat → Nat} (k : MI x I S) (hI : ∀ a, a ≠ 65 → I' a = I a) (hb : ∀ j, j < t → I' 65 j = nI (b j)) : MI (s2 x 64 2 (nI t)) I' (t, b, S.2.2) := by
  obtain ⟨k1, k2, k3, k4, k5, k6⟩ := k
  unfold MI FrO LKM at *
  refine ⟨⟨s2_e, hb⟩, ?_, ?_, ?_, ?_, ?_⟩
  · rw [s2_ne (by decide)]; exact k2
  · rw [hI 66 (by decide)]; exact k3
  · rw [s2_ne (by decide), hI 69 (by decide)]; exact k4
  · rw [hI 73 (by decide), hI 68 (by decide)]; exact k5
  · rw [s2_ne (by decide), hI 78 (by decide)]; exact k6
/-- thrown is nobody's -/
theorem MI.thrown {x I : Nat → Nat → Int32} {S : St} {v : Int32} (k : MI x I S) : MI (s2 x 64 0 v) I S := by
  obtain ⟨k1, k2, k3, k4, k5, k6⟩ := k
  unfold MI FrO LKM at *
  refine ⟨?_, ?_, k3, ?_, k5, ?_⟩
  · rw [s2_ne (by decide)]; exact k1
  · rw [s2_ne (by decide)]; exact k2
  · rw [s2_ne (by decide)]; exact k4
  · rw [s2_ne (by decide)]; exact k6
theorem SC.s2x {x I : Nat → Nat → Int32} {k : Nat} {v : Int32} : SC x I (s2 x 64 k v) I := fun a ha => ⟨s2_row (by omega), rfl⟩
theorem SC.tr {x I x' I' x2 I2 : Nat → Nat → Int32} (h : SC x I x' I') (k : SC x' I' x2 I2) : SC x I x2 I2 := fun a ha => ⟨(k a ha).1.trans (h a ha).1, (k a ha).2.trans (h a ha).2⟩
theorem SM.rf {x I : Nat → Nat → Int32} : SM x I x I := fun _ _ _ => ⟨rfl, rfl⟩
theorem SC.rf {x I : Nat → Nat → Int32} : SC x I x I := fun _ _ => ⟨rfl, rfl⟩
theorem s_end {PC : PCt} (hP : PCok PC) : S_end (INVp PC) := by
  intro h hI a1
  rcases neg_or a1 with hq | ⟨j, hj, rfl⟩
  · refine both (fC := fun h => f_X6_end h 0 a1) (fM := fun h => f_X7_end h 64 a1) hP.sc (fun _ => 0) (fun S => S) (fun n x w I L Q D S hc => ⟨n, x, I, L, Q, D, ?_, hc, SM.rf⟩) (fun n x w I L Q D S _ hm => ⟨_, w, I, ?_, hm.thrown (v := 0), SC.s2x⟩) hI
    · unfold f_X6_end; rw [if_pos hq]
    · unfold f_X7_end; rw [p_64_0, Option.bind_some, if_pos hq]
  · refine both (fC := fun h => f_X6_end h 0 (nI j)) (fM := fun h => f_X7_end h 64 (nI j)) hP.sc (fun S => bI (decide (j ≤ tL S))) (fun S => if j ≤ tL S then (j, S.2) else S) (fun n x w I L Q D S hc => ?_) (fun n x w I L Q D S hb hm => ?_) hI
    · have ht := hc.2.2.1
      by_cases hle : j ≤ tL S
      · refine ⟨n, s2 x 0 1 (nI j), I, L, Q, D, ?_, ?_, fun a h1 h2 => ⟨s2_row (by omega), rfl⟩⟩
        · unfold f_X6_end
          rw [if_neg (nI_pos hj), g_0_1, Option.bind_some, ht.2.1, if_pos (nI_le hle (by omega)), p_0_1, Option.bind_some]
          simp [hle, bI]
        · rw [if_pos hle]
          exact hc.tape hP (by omega) (fun _ _ => rfl) (fun i hi => ht.2.2 i (by omega))
      · refine ⟨n, x, I, L, Q, D, ?_, by rw [if_neg hle]; exact hc, SM.rf⟩
        unfold f_X6_end
        rw [if_neg (nI_pos hj), g_0_1, Option.bind_some, ht.2.1, if_neg (nI_ge (by omega) hj)]
        simp [hle, bI]
    · have ht := hm.1
      by_cases hle : j ≤ tL S
      · refine ⟨s2 (s2 x 64 0 0) 64 2 (nI j), w, I, ?_, ?_, SC.s2x.tr SC.s2x⟩
        · unfold f_X7_end
          rw [p_64_0, Option.bind_some, if_neg (nI_pos hj), g_64_2, Option.bind_some, s2_ne (by decide), ht.1, if_pos (nI_le hle (by omega)), p_64_2, Option.bind_some]
          simp [hle, bI]
        · rw [if_pos hle]
          exact hm.thrown.tape (fun _ _ => rfl) (fun i hi => ht.2 i (by omega))
      · refine ⟨s2 x 64 0 0, w, I, ?_, by rw [if_neg hle]; exact hm.thrown, SC.s2x⟩
        unfold f_X7_end
        rw [p_64_0, Option.bind_some, if_neg (nI_pos hj), g_64_2, Option.bind_some, s2_ne (by decide), ht.1, if_neg (nI_ge (by omega) hj)]
        simp [hle, bI]
theorem s_fault {PC : PCt} (hP : PCok PC) : S_fault (INVp PC) := by
  intro h hI
  refine both0 (fC := fun h => f_X6_fault h 0) (fM := fun h => f_X7_fault h 64) hP.sc (fun S => fL S) (fun S => S) (fun n x w I L Q D S hc => ⟨?_, hc⟩) (fun n x w I L Q D S _ hm => ⟨_, w, I, ?_, hm.thrown (v := 0), SC.s2x⟩) hI
  · unfold f_X6_fault; rw [g_0_3, Option.bind_some, hc.2.2.2.1]
  · unfold f_X7_fault; rw [p_64_0, Option.bind_some, g_64_8, Option.bind_some, s2_ne (by decide), hm.2.1]
theorem s_feed {PC : PCt} (hP : PCok PC) : S_feed (INVp PC) := by
  intro h hI a1 a2 a3 a4 a5
  refine both (fC := fun h => f_X6_feed h 0 a1 a2 a3 a4 a5) (fM := fun h => f_X7_feed h 64 a1 a2 a3 a4 a5) hP.sc (fun S => if tL S + 20 ≤ 340 then nI (tL S + 20) else NO) (fun S => if tL S + 20 ≤ 340 then (tL S + 20, app4 (app4 (app4 (app4 (app4 (tB S) (tL S) a1) (tL S + 4) a2) (tL S + 8) a3) (tL S + 12) a4) (tL S + 16) a5, S.2.2) else S) (fun n x w I L Q D S hc => ?_) (fun n x w I L Q D S hb hm => ?_) hI
  · have ht := hc.2.2.1
    have t340 := ht.1
    by_cases hle : tL S + 20 ≤ 340
    · obtain ⟨I1, e1, f1, g1⟩ := c_feedN (n := n) (w := w) (L := L) (Q := Q) (D := D) (z := a1) (by omega) ht.2.1 (fun j hj => (ht.2.2 j hj).2)
      obtain ⟨I2, e2, f2, g2⟩ := c_feedN (n := n) (w := w) (L := L) (Q := Q) (D := D) (z := a2) (t := tL S + 4) (by omega) (s2_e (x := x)) g1
      obtain ⟨I3, e3, f3, g3⟩ := c_feedN (n := n) (w := w) (L := L) (Q := Q) (D := D) (z := a3) (t := tL S + 8) (by omega) (s2_e (x := s2 x 0 1 (nI (tL S + 4)))) g2
      obtain ⟨I4, e4, f4, g4⟩ := c_feedN (n := n) (w := w) (L := L) (Q := Q) (D := D) (z := a4) (t := tL S + 12) (by omega) (s2_e (x := s2 (s2 x 0 1 (nI (tL S + 4))) 0 1 (nI (tL S + 8)))) g3
      obtain ⟨I5, e5, f5, g5⟩ := c_feedN (n := n) (w := w) (L := L) (Q := Q) (D := D) (z := a5) (t := tL S + 16) (by omega) (s2_e (x := s2 (s2 (s2 x 0 1 (nI (tL S + 4))) 0 1 (nI (tL S + 8))) 0 1 (nI (tL S + 12)))) g4
      simp only [s2_s2] at e1 e2 e3 e4 e5
      have fa : ∀ a, a ≠ 1 → I5 a = I a := fun a ha => by rw [f5 a ha, f4 a ha, f3 a ha, f2 a ha, f1 a ha]
      refine ⟨n, s2 x 0 1 (nI (tL S + 20)), I5, L, Q, D, ?_, ?_, fun a h1 h2 => ⟨s2_row (by omega), fa a (by omega)⟩⟩
      · unfold f_X6_feed
        rw [g_0_1, Option.bind_some, ht.2.1, li20, nI_add, li340, if_pos (nI_le hle (by decide)), o_0, if_pos rfl, e1, Option.bind_some, o_0, if_pos rfl, e2, Option.bind_some, o_0, if_pos rfl, e3, Option.bind_some, o_0, if_pos rfl, e4, Option.bind_some, o_0, if_pos rfl, e5, Option.bind_some, g_0_1, Option.bind_some, s2_e]
        rw [if_pos hle]
      · rw [if_pos hle]
        refine hc.tape hP hle fa (fun j hj => ⟨?_, g5 j hj⟩)
        unfold app4
        split
        · split
          · split
            · split
              · split
                · exact (ht.2.2 j (by omega)).1
                · exact byt_lt _
              · exact byt_lt _
            · exact byt_lt _
          · exact byt_lt _
        · exact byt_lt _
    · refine ⟨n, x, I, L, Q, D, ?_, by rw [if_neg hle]; exact hc, SM.rf⟩
      unfold f_X6_feed
      rw [g_0_1, Option.bind_some, ht.2.1, li20, nI_add, li340, if_neg (nI_ge (by omega) (by omega)), if_neg hle]
      rfl
  · have ht := hm.1
    have t340 := hb.2.2.1
    by_cases hle : tL S + 20 ≤ 340
    · have hx0 : s2 x 64 0 0 64 2 = nI (tL S) := by rw [s2_ne (by decide)]; exact ht.1
      obtain ⟨I1, e1, f1, g1⟩ := m_lay (n := n) (w := w) (L := L) (Q := Q) (D := D) (z := a1) (by omega) hx0 (fun j hj => ht.2 j hj)
      obtain ⟨I2, e2, f2, g2⟩ := m_lay (n := n) (w := w) (L := L) (Q := Q) (D := D) (z := a2) (t := tL S + 4) (by omega) (s2_e (x := s2 x 64 0 0)) g1
      obtain ⟨I3, e3, f3, g3⟩ := m_lay (n := n) (w := w) (L := L) (Q := Q) (D := D) (z := a3) (t := tL S + 8) (by omega) (s2_e (x := s2 (s2 x 64 0 0) 64 2 (nI (tL S + 4)))) g2
      obtain ⟨I4, e4, f4, g4⟩ := m_lay (n := n) (w := w) (L := L) (Q := Q) (D := D) (z := a4) (t := tL S + 12) (by omega) (s2_e (x := s2 (s2 (s2 x 64 0 0) 64 2 (nI (tL S + 4))) 64 2 (nI (tL S + 8)))) g3
      obtain ⟨I5, e5, f5, g5⟩ := m_lay (n := n) (w := w) (L := L) (Q := Q) (D := D) (z := a5) (t := tL S + 16) (by omega) (s2_e (x := s2 (s2 (s2 (s2 x 64 0 0) 64 2 (nI (tL S + 4))) 64 2 (nI (tL S + 8))) 64 2 (nI (tL S + 12)))) g4
      simp only [s2_s2] at e1 e2 e3 e4 e5
      have fa : ∀ a, a ≠ 65 → I5 a = I a := fun a ha => by rw [f5 a ha, f4 a ha, f3 a ha, f2 a ha, f1 a ha]
      refine ⟨s2 (s2 x 64 0 0) 64 2 (nI (tL S + 20)), w, I5, ?_, ?_, fun a ha => ⟨by rw [s2_row (by omega), s2_row (by omega)], fa a (by omega)⟩⟩
      · unfold f_X7_feed
        rw [p_64_0, Option.bind_some, g_64_2, Option.bind_some, hx0, li20, nI_add, li340, if_pos (nI_le hle (by decide)), o_64, if_pos rfl, e1, Option.bind_some, o_64, if_pos rfl, e2, Option.bind_some, o_64, if_pos rfl, e3, Option.bind_some, o_64, if_pos rfl, e4, Option.bind_some, o_64, if_pos rfl, e5, Option.bind_some, g_64_2, Option.bind_some, s2_e]
        rw [if_pos hle]
      · rw [if_pos hle]
        exact hm.thrown.tape fa g5
    · refine ⟨s2 x 64 0 0, w, I, ?_, by rw [if_neg hle]; exact hm.thrown, SC.s2x⟩
      unfold f_X7_feed
      rw [p_64_0, Option.bind_some, g_64_2, Option.bind_some, s2_ne (by decide), ht.1, li20, nI_add, li340, if_neg (nI_ge (by omega) (by omega)), if_neg hle]
      rfl
