/-! drawn: the loops -/
def runD (T : Int32 → Fm → Bool × Int32 × Fm) : Nat → Int32 → Fm → Nat × Fm
  | 0, _, F => (0, F)
  | k + 1, s, F => ((runD T k (T s F).2.1 (T s F).2.2).1 + (if (T s F).1 = true then 1 else 0), (runD T k (T s F).2.1 (T s F).2.2).2)
theorem runD_le {T : Int32 → Fm → Bool × Int32 × Fm} : ∀ (k : Nat) (s : Int32) (F : Fm), (runD T k s F).1 ≤ k
  | 0, _, _ => Nat.le_refl _
  | k + 1, s, F => by
    have := runD_le (T := T) k (T s F).2.1 (T s F).2.2
    rw [runD]
    show (runD T k (T s F).2.1 (T s F).2.2).1 + (if (T s F).1 = true then 1 else 0) ≤ k + 1
    split <;> omega
theorem runD_0 {T : Int32 → Fm → Bool × Int32 × Fm} (hT : ∀ s F, (T s F).1 = false → (T s F).2.2 = F) : ∀ (k : Nat) (s : Int32) (F : Fm), (runD T k s F).1 = 0 → (runD T k s F).2 = F
  | 0, _, _, _ => rfl
  | k + 1, s, F, h => by
    rw [runD] at h ⊢
    have h : (runD T k (T s F).2.1 (T s F).2.2).1 + (if (T s F).1 = true then 1 else 0) = 0 := h
    have h2 : (T s F).1 = false := by
      cases e : (T s F).1 with
      | false => rfl
      | true => rw [e] at h; simp at h
    have ih := runD_0 hT k (T s F).2.1 (T s F).2.2 (by omega)
    show (runD T k (T s F).2.1 (T s F).2.2).2 = F
    rw [ih, hT s F h2]
theorem runD_wf {T : Int32 → Fm → Bool × Int32 × Fm} (hT : ∀ s F, WFf F → WFf (T s F).2.2) : ∀ (k : Nat) (s : Int32) (F : Fm), WFf F → WFf (runD T k s F).2
  | 0, _, _, h => h
  | k + 1, s, F, h => by
    rw [runD]
    exact runD_wf hT k _ _ (hT s F h)
theorem dH_no {F : Fm} {p : Nat} (h : (dH F p).1 = false) : (dH F p).2 = F := by
  unfold dH at *
  split
  · rfl
  · rename_i q; rw [if_neg q] at h; cases h
theorem dP_no {F : Fm} {p : Nat} (h : (dP F p).1 = false) : (dP F p).2 = F := by
  unfold dP at *
  split
  · rename_i q; rw [if_pos q] at h; cases h
  · rfl
theorem dN_no {F : Fm} {d p : Nat} (h : (dN F d p).1 = false) : (dN F d p).2 = F := by
  unfold dN at *
  split
  · rename_i q; rw [if_pos q] at h; cases h
  · rename_i q
    rw [if_neg q] at h
    split
    · rename_i q2; rw [if_pos q2] at h; cases h
    · rfl
theorem deedG_no {s1 s2 s3 : Int32} {V1 V2 V3 : Nat → Nat} {F : Fm} (h : (deedG s1 s2 s3 V1 V2 V3 F).1 = false) : (deedG s1 s2 s3 V1 V2 V3 F).2.2 = F := by
  unfold deedG at *
  by_cases h0 : F.1 = 0
  · rw [if_pos h0]
  rw [if_neg h0] at h ⊢
  by_cases h1 : V1 4 = 0
  · rw [if_pos h1] at h ⊢
    exact dH_no h
  rw [if_neg h1] at h ⊢
  by_cases h2 : V1 4 = 1
  · rw [if_pos h2] at h ⊢
    exact dP_no h
  rw [if_neg h2] at h ⊢
  by_cases h3 : F.2.2.1 = 0
  · rw [if_pos h3]
  rw [if_neg h3] at h ⊢
  exact dN_no h
section DLOOP
variable {n : Nat} {x : Nat → Nat → Int32} {w : Int64} {I : Nat → Nat → Int32} {L : Nat → Nat → Int64} {Q : Nat → Nat → Option Nat} {D : Nat → Bool} {T : Int32 → Fm → Bool × Int32 × Fm}
def TC (T : Int32 → Fm → Bool × Int32 × Fm) : Prop := ∀ n w L Q D s F (x I : Nat → Nat → Int32), x 13 0 = s → FrF x I 6 F → WFf F → ∃ x' I', f_X0_doDeed (MM n x w I L Q D) 13 6 = some (bI (T s F).1, MM n x' w I' L Q D) ∧ DeedC x I x' I' (T s F)
theorem c_drawn_l {m : Nat} (hm : m ≤ 60) (hT : TC T) (hw : ∀ s F, WFf F → WFf (T s F).2.2) : ∀ (j v dn fu : Nat) (s : Int32) (F : Fm) (x I : Nat → Nat → Int32), v + j = m → j < fu → dn ≤ v → x 13 0 = s → FrF x I 6 F → WFf F → ∃ x' I', f_X6_drawn_37 fu 0 (nI m) (nI dn) (nI v) (MM n x w I L Q D) = (if nI (dn + (runD T j s F).1) ≤ 0 then (some ((nI (dn + (runD T j s F).1), MM n x' w I' L Q D))) else ((f_X6_acted (MM n x' w I' L Q D) 0).bind fun h1 => some ((nI (dn + (runD T j s F).1), h1)))) ∧ FrF x' I' 6 (runD T j s F).2 ∧ (∀ a, a ≠ 6 → a ≠ 13 → x' a = x a) ∧ ∀ a, a ≠ 7 → I' a = I a := by
  intro j
  induction j with
  | zero =>
    intro v dn fu s F x I hu hfu hdn hs h6 hF
    obtain ⟨fu, rfl⟩ : ∃ n9, fu = n9 + 1 := ⟨fu - 1, by omega⟩
    obtain rfl : v = m := by omega
    refine ⟨x, I, ?_, h6, fun _ _ _ => rfl, fun _ _ => rfl⟩
    rw [f_X6_drawn_37, if_pos (nI_le (Nat.le_refl _) (by omega)), o_0, if_pos rfl]
    rfl
  | succ j ih =>
    intro v dn fu s F x I hu hfu hdn hs h6 hF
    obtain ⟨fu, rfl⟩ : ∃ n9, fu = n9 + 1 := ⟨fu - 1, by omega⟩
    obtain ⟨x1, I1, e1, e2, e3, e4, e5⟩ := hT n w L Q D s F x I hs h6 hF
    rw [f_X6_drawn_37, if_neg (nI_ge (by omega) (by omega)), r_0_8, Option.bind_some, r_0_4, Option.bind_some, o_13, if_pos rfl, e1, Option.bind_some, li1, nI_add, nI_add, runD]
    cases hb : (T s F).1 with
    | false =>
      obtain ⟨x2, I2, g1, g2, g3, g4⟩ := ih (v + 1) dn fu _ _ x1 I1 (by omega) (by omega) (by omega) e2 e3 (hw s F hF)
      rw [if_pos (show bI false = 0 from rfl)]
      exact ⟨x2, I2, g1, g2, fun a q1 q2 => by rw [g3 a q1 q2, e4 a q1 q2], fun a q => by rw [g4 a q, e5 a q]⟩
    | true =>
      obtain ⟨x2, I2, g1, g2, g3, g4⟩ := ih (v + 1) (dn + 1) fu _ _ x1 I1 (by omega) (by omega) (by omega) e2 e3 (hw s F hF)
      rw [if_neg (show ¬ bI true = 0 by decide)]
      refine ⟨x2, I2, ?_, g2, fun a q1 q2 => by rw [g3 a q1 q2, e4 a q1 q2], fun a q => by rw [g4 a q, e5 a q]⟩
      rw [g1, show dn + 1 + (runD T j (T s F).2.1 (T s F).2.2).1 = dn + ((runD T j (T s F).2.1 (T s F).2.2).1 + 1) by omega]
      rfl
def TM (T : Int32 → Fm → Bool × Int32 × Fm) : Prop := ∀ n w L Q D s F (x I : Nat → Nat → Int32), x 64 30 = s → FrO I 66 0 F → WFf F → ∃ I', f_X7_does (MM n x w I L Q D) 64 = some (bI (T s F).1, MM n (s2 x 64 30 (T s F).2.1) w I' L Q D) ∧ DeM I I' (T s F).2.2
theorem m_drawn_l {m : Nat} (hm : m ≤ 60) (hT : TM T) (hw : ∀ s F, WFf F → WFf (T s F).2.2) : ∀ (j v dn fu : Nat) (s : Int32) (F : Fm) (x I : Nat → Nat → Int32), v + j = m → j < fu → dn ≤ v → x 64 30 = s → FrO I 66 0 F → WFf F → ∃ s' I', f_X7_drawn_40 fu 64 (nI m) (nI dn) (nI v) (MM n x w I L Q D) = (if nI (dn + (runD T j s F).1) ≤ 0 then (some ((nI (dn + (runD T j s F).1), MM n (s2 x 64 30 s') w I' L Q D))) else ((f_X7_stay (MM n (s2 x 64 30 s') w I' L Q D) 64).bind fun h1 => some ((nI (dn + (runD T j s F).1), h1)))) ∧ FrO I' 66 0 (runD T j s F).2 ∧ ∀ a, a ≠ 66 → I' a = I a := by
  intro j
  induction j with
  | zero =>
    intro v dn fu s F x I hu hfu hdn hs h6 hF
    obtain ⟨fu, rfl⟩ : ∃ n9, fu = n9 + 1 := ⟨fu - 1, by omega⟩
    obtain rfl : v = m := by omega
    refine ⟨s, I, ?_, h6, fun _ _ => rfl⟩
    have e : s2 x 64 30 s = x := by
      funext a b
      rw [s2_at]
      split
      · rename_i q; rw [q.1, q.2, hs]
      · rfl
    rw [f_X7_drawn_40, if_pos (nI_le (Nat.le_refl _) (by omega)), o_64, if_pos rfl, e]
    rfl
  | succ j ih =>
    intro v dn fu s F x I hu hfu hdn hs h6 hF
    obtain ⟨fu, rfl⟩ : ∃ n9, fu = n9 + 1 := ⟨fu - 1, by omega⟩
    obtain ⟨I1, e1, e2, e3⟩ := hT n w L Q D s F x I hs h6 hF
    rw [f_X7_drawn_40, if_neg (nI_ge (by omega) (by omega)), o_64, if_pos rfl, e1, Option.bind_some, li1, nI_add, nI_add, runD]
    cases hb : (T s F).1 with
    | false =>
      obtain ⟨s', I2, g1, g2, g3⟩ := ih (v + 1) dn fu _ _ (s2 x 64 30 (T s F).2.1) I1 (by omega) (by omega) (by omega) s2_e e2 (hw s F hF)
      rw [s2_s2] at g1
      rw [if_pos (show bI false = 0 from rfl)]
      exact ⟨s', I2, g1, g2, fun a q => by rw [g3 a q, e3 a q]⟩
    | true =>
      obtain ⟨s', I2, g1, g2, g3⟩ := ih (v + 1) (dn + 1) fu _ _ (s2 x 64 30 (T s F).2.1) I1 (by omega) (by omega) (by omega) s2_e e2 (hw s F hF)
      rw [s2_s2] at g1
      rw [if_neg (show ¬ bI true = 0 by decide)]
      refine ⟨s', I2, ?_, g2, fun a q => by rw [g3 a q, e3 a q]⟩
      rw [g1, show dn + 1 + (runD T j (T s F).2.1 (T s F).2.2).1 = dn + ((runD T j (T s F).2.1 (T s F).2.2).1 + 1) by omega]
      rfl
end DLOOP
theorem CI.re {PC : PCt} (hP : PCok PC) {n : Nat} {x I x' I' : Nat → Nat → Int32} {L : Nat → Nat → Int64} {Q : Nat → Nat → Option Nat} {D : Nat → Bool} {S : St} (k : CI PC n x I L Q D S) (hx : ∀ a, a ≠ 6 → a ≠ 8 → a ≠ 13 → x' a = x a) (hI : ∀ a, a ≠ 7 → a ≠ 9 → I' a = I a) (h6 : FrF x' I' 6 (fR S)) : CI PC n x' I' L Q D S := by
  obtain ⟨k1, k2, k3, k4, k5, k6, k7, k8, k9⟩ := k
  refine ⟨k1, k2, ?_, ?_, ⟨k5.1, h6⟩, ?_, ?_, ⟨k8.1, ?_⟩, ?_⟩
  · rw [hx 0 (by decide) (by decide) (by decide), hI 1 (by decide) (by decide)]; exact k3
  · rw [hx 0 (by decide) (by decide) (by decide)]; exact k4
  · rw [hx 10 (by decide) (by decide) (by decide)]
    obtain ⟨e1, e2, t, e3, e4, e5⟩ := k6
    refine ⟨e1, e2, t, e3, e4, fun k hk => ?_⟩
    obtain ⟨e6, a, e7, e8⟩ := e5 k hk
    have := (k2.ring (Nat.mod_lt _ (by decide)) e7).1
    exact ⟨e6, a, e7, e8.same (hx a (by omega) (by omega) (by omega)) (hI _ (by omega) (by omega))⟩
  · intro k hk
    have e := k7 k hk
    cases hi : iM S k with
    | none => rw [hi] at e; exact e
    | some G =>
      rw [hi] at e
      obtain ⟨e6, a, e7, e8⟩ := e
      have := (k2.img hk e7).1
      exact ⟨e6, a, e7, e8.same (hx a (by omega) (by omega) (by omega)) (hI _ (by omega) (by omega))⟩
  · unfold LKC at *
    rw [hx 60 (by decide) (by decide) (by decide), hI 61 (by decide) (by decide), hI 62 (by decide) (by decide)]
    exact k8.2
  · exact hP.2 _ _ _ _ _ _ _ (hx 14 (by decide) (by decide) (by decide)) (fun a h1 h2 => hI a (by omega) (by omega)) rfl rfl k9
theorem s_drawnT {PC : PCt} (hP : PCok PC) {T : Int32 → Fm → Bool × Int32 × Fm} (hC : TC T) (hM : TM T) (hw : ∀ s F, WFf F → WFf (T s F).2.2) (hno : ∀ s F, (T s F).1 = false → (T s F).2.2 = F) : S_drawn (INVp PC) := by
  intro h hI a1 a2
  have refuse : ∀ (_ : ∀ n x w I L Q D, f_X6_drawn (MM n x w I L Q D) 0 a1 a2 = some (NO, (MM n x w I L Q D))) (_ : ∀ n x w I L Q D, f_X7_drawn (MM n x w I L Q D) 64 a1 a2 = some (NO, MM n (s2 x 64 0 0) w I L Q D)), ∃ r h1 h2, (oK h 0 6 = true ∧ f_X6_drawn h 0 a1 a2 = some (r, h1)) ∧ (oK h1 64 7 = true ∧ f_X7_drawn h1 64 a1 a2 = some (r, h2)) ∧ INVp PC h2 := fun r1 r2 =>
    both (fC := fun h => f_X6_drawn h 0 a1 a2) (fM := fun h => f_X7_drawn h 64 a1 a2) hP.sc (fun _ => NO) (fun S => S) (fun n x w I L Q D S hc => ⟨n, x, I, L, Q, D, r1 n x w I L Q D, hc, SM.rf⟩) (fun n x w I L Q D S hb hm => ⟨s2 x 64 0 0, w, I, r2 n x w I L Q D, hm.thrown, SC.s2x⟩) hI
  rcases neg_or a1 with hq | ⟨m, hm31, rfl⟩
  · refine refuse (fun n x w I L Q D => ?_) (fun n x w I L Q D => ?_)
    · unfold f_X6_drawn; rw [liN, li1, if_pos (neg_lt hq (by decide))]
    · unfold f_X7_drawn; rw [liN, p_64_0, Option.bind_some, li1, m_isInN hq (by decide), Option.bind_some, if_pos rfl]
  · by_cases hin : 1 ≤ m ∧ m ≤ 60
    · refine both (fC := fun h => f_X6_drawn h 0 (nI m) a2) (fM := fun h => f_X7_drawn h 64 (nI m) a2) hP.sc (fun S => nI (runD T m a2 (fR S)).1) (fun S => if (runD T m a2 (fR S)).1 = 0 then S else actS S (runD T m a2 (fR S)).2) (fun n x w I L Q D S hc => ?_) (fun n x w I L Q D S hb hm => ?_) hI
      · have hle := runD_le (T := T) m a2 (fR S)
        obtain ⟨x1, I1, e1, e2, e3, e4, e5⟩ := c_before hP (w := w) hc
        have h6 : FrF (s2 x1 13 0 a2) I1 6 (fR S) := e2.2.2.2.2.1.2.same (s2_row (by decide)) rfl
        obtain ⟨x2, I2, g1, g2, g3, g4⟩ := c_drawn_l (n := n) (w := w) (L := L) (Q := Q) (D := D) hin.2 hC hw m 0 0 4096 a2 (fR S) (s2 x1 13 0 a2) I1 (by omega) (by omega) (by omega) s2_e h6 hc.2.2.2.2.1.1
        have gx : ∀ a, a ≠ 6 → a ≠ 8 → a ≠ 13 → x2 a = x a := fun a q1 q2 q3 => by rw [g3 a q1 q3, s2_row q3, e3 a q2]
        have gI : ∀ a, a ≠ 7 → a ≠ 9 → I2 a = I a := fun a q1 q2 => by rw [g4 a q1, e4 a q2]
        have hstart : f_X6_drawn (MM n x w I L Q D) 0 (nI m) a2 = f_X6_drawn_37 4096 0 (nI m) (nI 0) (nI 0) (MM n (s2 x1 13 0 a2) w I1 L Q D) := by
          unfold f_X6_drawn
          rw [if_neg (show ¬ nI m < 1 from nI_nlt (b := 1) hin.1 hm31), if_pos (show nI m ≤ 60 from nI_le (b := 60) hin.2 (by decide)), r_0_5, Option.bind_some, r_0_4, Option.bind_some, o_8, if_pos rfl, e1, Option.bind_some, r_0_8, Option.bind_some, p_13_0, Option.bind_some]
          rfl
        rw [hstart, g1, Nat.zero_add]
        by_cases h0 : (runD T m a2 (fR S)).1 = 0
        · rw [if_pos (show nI (runD T m a2 (fR S)).1 ≤ 0 by rw [h0]; decide), if_pos h0]
          rw [runD_0 hno m a2 (fR S) h0] at g2
          exact ⟨n, x2, I2, L, Q, D, rfl, hc.re hP gx gI g2, SM.of (fun a z1 z2 => gx a (by omega) (by omega) (by omega)) (fun a z1 z2 => gI a (by omega) (by omega))⟩
        · rw [if_neg (show ¬ nI (runD T m a2 (fR S)).1 ≤ 0 from nI_nle (by omega) (by omega)), if_neg h0]
          have hc0 : CI PC n (u1 x 13 (x2 13)) I L Q D S := hc.re hP (fun a q1 q2 q3 => u1_n q3) (fun _ _ _ => rfl) (hc.2.2.2.2.1.2.same (u1_n (by decide)) rfl)
          have h8 : FrF x2 I2 8 (fR S) := e5.same (by rw [g3 8 (by decide) (by decide), s2_row (by decide)]) (g4 9 (by decide))
          obtain ⟨n', x', I', Q', D', f1, f2, f3, f4⟩ := c_acted hP (w := w) (x1 := x2) (I1 := I2) (F := (runD T m a2 (fR S)).2) hc0 (fun a q1 q2 => by
            by_cases z : a = 13
            · subst z; rw [u1_e]
            · rw [u1_n z, gx a q1 q2 z]) gI h8 g2 (runD_wf hw m a2 (fR S) hc.2.2.2.2.1.1)
          rw [f1, Option.bind_some]
          exact ⟨n', x', I', L, Q', D', rfl, f2, fun a z1 z2 => ⟨by rw [(f3 a z1 z2).1, u1_n (by omega)], (f3 a z1 z2).2⟩⟩
      · have hle := runD_le (T := T) m a2 (fR S)
        obtain ⟨k1, k2, k3, k4, k5, k6⟩ := id hm
        have hI70 : FrO (u1 I 70 (fb_put (I 70) (fun k => I 66 (0 + k)) 0 19)) 66 0 (fR S) := by unfold FrO at *; rw [u1_n (by decide)]; exact k3
        obtain ⟨s', I2, g1, g2, g3⟩ := m_drawn_l (n := n) (w := w) (L := L) (Q := Q) (D := D) hin.2 hM hw m 0 0 4096 a2 (fR S) (s2 (s2 x 64 0 0) 64 30 a2) (u1 I 70 (fb_put (I 70) (fun k => I 66 (0 + k)) 0 19)) (by omega) (by omega) (by omega) s2_e hI70 hb.1
        rw [s2_s2] at g1
        have hstart : f_X7_drawn (MM n x w I L Q D) 64 (nI m) a2 = f_X7_drawn_40 4096 64 (nI m) (nI 0) (nI 0) (MM n (s2 (s2 x 64 0 0) 64 30 a2) w (u1 I 70 (fb_put (I 70) (fun k => I 66 (0 + k)) 0 19)) L Q D) := by
          unfold f_X7_drawn
          rw [p_64_0, Option.bind_some, show f_X7_isIn (MM n (s2 x 64 0 0) w I L Q D) (nI m) 1 60 = _ from m_isIn (b := 1) (c := 60) hm31 (by decide) (by decide), Option.bind_some, if_neg (show ¬ bI (decide (1 ≤ m ∧ m ≤ 60)) = 0 by rw [bI_0]; simpa using hin), r_64_11, Option.bind_some, r_64_15, Option.bind_some, show f_X7_copy (MM n (s2 x 64 0 0) w I L Q D) 66 0 70 0 = _ from m_copy (a := 66) (b := 70) (o := 0) (o2 := 0) (la := 19) (lb := 19) rfl rfl (by decide) (by decide) (by decide) (by decide) (by decide), Option.bind_some, p_64_30, Option.bind_some]
          rfl
        rw [hstart, g1, Nat.zero_add]
        have gI : ∀ a, a ≠ 66 → a ≠ 70 → I2 a = I a := fun a q1 q2 => by rw [g3 a q1, u1_n q2]
        by_cases h0 : (runD T m a2 (fR S)).1 = 0
        · rw [if_pos (show nI (runD T m a2 (fR S)).1 ≤ 0 by rw [h0]; decide), if_pos h0]
          rw [runD_0 hno m a2 (fR S) h0] at g2
          refine ⟨_, w, I2, rfl, ⟨?_, ?_, g2, ?_, fun k hk => ?_, ?_⟩, fun a ha => ⟨by rw [s2_row (by omega), s2_row (by omega)], gI a (by omega) (by omega)⟩⟩
          · rw [s2_ne (by decide), s2_ne (by decide), gI 65 (by decide) (by decide)]; exact k1
          · rw [s2_ne (by decide), s2_ne (by decide)]; exact k2
          · unfold FrO at *
            rw [s2_ne (by decide), s2_ne (by decide), gI 69 (by decide) (by decide)]; exact k4
          · have e := k5 k hk
            unfold FrO at *
            rw [gI 73 (by decide) (by decide), gI 68 (by decide) (by decide)]
            exact e
          · unfold LKM at *
            rw [s2_ne (by decide), s2_ne (by decide), gI 78 (by decide) (by decide)]
            exact k6
        · rw [if_neg (show ¬ nI (runD T m a2 (fR S)).1 ≤ 0 from nI_nle (by omega) (by omega)), if_neg h0]
          -- stay
          have c1 : f_X7_copy (MM n (s2 (s2 x 64 0 0) 64 30 s') w I2 L Q D) 66 0 71 0 = _ := m_copy (a := 66) (b := 71) (o := 0) (o2 := 0) (la := 19) (lb := 19) rfl rfl (by decide) (by decide) (by decide) (by decide) (by decide)
          generalize hI3 : u1 I2 71 (fb_put (I2 71) (fun k => I2 66 (0 + k)) 0 19) = I3 at c1
          have c2 : f_X7_copy (MM n (s2 (s2 x 64 0 0) 64 30 s') w I3 L Q D) 70 0 66 0 = _ := m_copy (a := 70) (b := 66) (o := 0) (o2 := 0) (la := 19) (lb := 19) rfl rfl (by decide) (by decide) (by decide) (by decide) (by decide)
          generalize hI4 : u1 I3 66 (fb_put (I3 66) (fun k => I3 70 (0 + k)) 0 19) = I4 at c2
          have q3 : ∀ a, a ≠ 71 → I3 a = I2 a := fun a ha => by rw [← hI3, u1_n ha]
          have q3' : ∀ j, j < 19 → I3 71 j = I2 66 j := fun j hj => by rw [← hI3, u1_e, fb_put_in (by omega) (by omega), show 0 + (j - 0) = j by omega]
          have q4 : ∀ a, a ≠ 66 → I4 a = I3 a := fun a ha => by rw [← hI4, u1_n ha]
          have h66 : FrO I4 66 0 (fR S) := by
            rw [FrO_iff]
            intro j hj
            rw [← hI4, u1_e, fb_put_in (by omega) (by omega), show 0 + (0 + j - 0) = 0 + j by omega, q3 70 (by decide), g3 70 (by decide), u1_e, fb_put_in (by omega) (by omega), show 0 + (0 + j - 0) = 0 + j by omega]
            exact FrO_iff.mp k3 j hj
          have hs69 : ∀ k, k < uN9 S → FrO I4 69 (19 * k) (uF S k) := fun k hk => by
            have := k4.2 k hk
            unfold FrO at *
            rw [q4 69 (by decide), q3 69 (by decide), gI 69 (by decide) (by decide)]
            exact this
          obtain ⟨I5, c3, q5, q6⟩ := m_snap (n := n) (x := s2 (s2 x 64 0 0) 64 30 s') (w := w) (L := L) (Q := Q) (D := D) hb.2.1 (by rw [s2_ne (by decide), s2_ne (by decide)]; exact k4.1) hs69 h66
          have c4 : f_X7_copy (MM n (s2 (s2 (s2 x 64 0 0) 64 30 s') 64 19 (nI (addN (uN9 S)))) w I5 L Q D) 71 0 66 0 = _ := m_copy (a := 71) (b := 66) (o := 0) (o2 := 0) (la := 19) (lb := 19) rfl rfl (by decide) (by decide) (by decide) (by decide) (by decide)
          have hstay : f_X7_stay (MM n (s2 (s2 x 64 0 0) 64 30 s') w I2 L Q D) 64 = some (MM n (s2 (s2 (s2 x 64 0 0) 64 30 s') 64 19 (nI (addN (uN9 S)))) w (u1 I5 66 (fb_put (I5 66) (fun k => I5 71 (0 + k)) 0 19)) L Q D) := by
            unfold f_X7_stay
            rw [r_64_11, Option.bind_some, r_64_16, Option.bind_some, c1, Option.bind_some, r_64_15, Option.bind_some, r_64_11, Option.bind_some, c2, Option.bind_some, o_64, if_pos rfl, c3, Option.bind_some, r_64_16, Option.bind_some, r_64_11, Option.bind_some, c4, Option.bind_some]
          have qf : ∀ a, a ≠ 66 → a ≠ 69 → a ≠ 70 → a ≠ 71 → u1 I5 66 (fb_put (I5 66) (fun k => I5 71 (0 + k)) 0 19) a = I a := fun a z1 z2 z3 z4 => by rw [u1_n z1, q5 a z2, q4 a z1, q3 a z4, gI a z1 z3]
          rw [hstay, Option.bind_some]
          refine ⟨_, w, _, rfl, ⟨?_, ?_, ?_, ⟨s2_e, fun k hk => ?_⟩, fun k hk => ?_, ?_⟩, fun a ha => ⟨by rw [s2_row (by omega), s2_row (by omega), s2_row (by omega)], qf a (by omega) (by omega) (by omega) (by omega)⟩⟩
          · rw [s2_ne (by decide), s2_ne (by decide), s2_ne (by decide), qf 65 (by decide) (by decide) (by decide) (by decide)]; exact k1
          · rw [s2_ne (by decide), s2_ne (by decide), s2_ne (by decide)]; exact k2
          · rw [FrO_iff]
            intro j hj
            rw [u1_e, fb_put_in (by omega) (by omega), show 0 + (0 + j - 0) = j by omega, q5 71 (by decide), q4 71 (by decide), q3' j hj]
            have := FrO_iff.mp g2 j hj
            rw [Nat.zero_add] at this
            exact this
          · have := q6 k hk
            unfold FrO at *
            rw [u1_n (show (69 : Nat) ≠ 66 by decide)]
            exact this
          · have e := k5 k hk
            unfold FrO at *
            rw [qf 73 (by decide) (by decide) (by decide) (by decide), qf 68 (by decide) (by decide) (by decide) (by decide)]
            exact e
          · unfold LKM at *
            show s2 _ 64 19 _ 64 28 = lI (lN9 S) ∧ _
            rw [s2_ne (by decide), s2_ne (by decide), s2_ne (by decide), qf 78 (by decide) (by decide) (by decide) (by decide)]
            exact k6
    · refine refuse (fun n x w I L Q D => ?_) (fun n x w I L Q D => ?_)
      · unfold f_X6_drawn
        by_cases z : m < 1
        · rw [liN, if_pos (show nI m < 1 from nI_lt (b := 1) z (by decide))]
        · rw [liN, if_neg (show ¬ nI m < 1 from nI_nlt (b := 1) (by omega) hm31), if_neg (show ¬ nI m ≤ 60 from nI_ge (a := 60) (by omega) hm31)]
      · unfold f_X7_drawn
        rw [liN, p_64_0, Option.bind_some, show f_X7_isIn (MM n (s2 x 64 0 0) w I L Q D) (nI m) 1 60 = _ from m_isIn (b := 1) (c := 60) hm31 (by decide) (by decide), Option.bind_some, if_pos (show bI (decide (1 ≤ m ∧ m ≤ 60)) = 0 by rw [bI_0]; simpa using hin)]
theorem s_drawn {PC : PCt} (hP : PCok PC) : S_drawn (INVp PC) := s_drawnT hP (T := deed) (fun n w L Q D s F x I h1 h2 h3 => c_deed h1 h2 h3) (fun n w L Q D s F x I h1 h2 h3 => m_deed h1 h2 h3) (fun s F h => deed_wf h) (fun s F h => deedG_no h)
