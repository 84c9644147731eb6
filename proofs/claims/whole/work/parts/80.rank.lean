/-! rank, behind, row -/
def lookS (S : St) (m : Nat) (r : Nat → Nat) : St := (S.1, S.2.1, S.2.2.1, S.2.2.2.1, S.2.2.2.2.1, S.2.2.2.2.2.1, S.2.2.2.2.2.2.1, some m, r)
theorem CI.look {PC : PCt} (hP : PCok PC) {n : Nat} {x I x' I' : Nat → Nat → Int32} {L : Nat → Nat → Int64} {Q : Nat → Nat → Option Nat} {D : Nat → Bool} {S : St} {m : Nat} {r : Nat → Nat} (k : CI PC n x I L Q D S) (hok : LKok (some m) r) (hl : LKC x' I' (some m) r) (g : ∀ a, a ≠ 60 → x' a = x a) (g2 : ∀ a, a ≠ 61 → a ≠ 62 → I' a = I a) : CI PC n x' I' L Q D (lookS S m r) := by
  obtain ⟨k1, k2, k3, k4, k5, k6, k7, k8, k9⟩ := k
  refine ⟨k1, k2, ?_, ?_, ?_, ?_, ?_, ⟨hok, hl⟩, ?_⟩
  · rw [g 0 (by omega), g2 1 (by omega) (by omega)]; exact k3
  · rw [g 0 (by omega)]; exact k4
  · exact ⟨k5.1, k5.2.same (g 6 (by omega)) (g2 7 (by omega) (by omega))⟩
  · rw [g 10 (by omega)]
    obtain ⟨e1, e2, t, e3, e4, e5⟩ := k6
    refine ⟨e1, e2, t, e3, e4, fun k hk => ?_⟩
    obtain ⟨e6, a, e7, e8⟩ := e5 k hk
    have := k2.ring (Nat.mod_lt _ (by decide)) e7
    exact ⟨e6, a, e7, e8.same (g a (by have := this.1; omega)) (g2 _ (by have := this.1; omega) (by have := this.1; omega))⟩
  · intro k hk
    have e := k7 k hk
    show match iM S k with
      | none => Q 12 k = none
      | some G => WFf G ∧ ∃ a, Q 12 k = some a ∧ FrF x' I' a G
    cases hi : iM S k with
    | none => rw [hi] at e; exact e
    | some G =>
      rw [hi] at e
      obtain ⟨e6, a, e7, e8⟩ := e
      have := k2.img hk e7
      exact ⟨e6, a, e7, e8.same (g a (by have := this.1; omega)) (g2 _ (by have := this.1; omega) (by have := this.1; omega))⟩
  · exact hP.2 x I L x' I' L (fR S) (g 14 (by decide)) (fun a h1 h2 => g2 a (by omega) (by omega)) rfl rfl k9
theorem MI.look {x I x' I' : Nat → Nat → Int32} {S : St} {m : Nat} {r : Nat → Nat} (k : MI x I S) (hl : LKM x' I' (some m) r) (g : ∀ j, j ≠ 28 → x' 64 j = x 64 j) (g2 : ∀ a, a ≠ 78 → I' a = I a) : MI x' I' (lookS S m r) := by
  obtain ⟨k1, k2, k3, k4, k5, k6⟩ := k
  refine ⟨?_, ?_, ?_, ?_, ?_, hl⟩
  · rw [g 2 (by decide), g2 65 (by decide)]; exact k1
  · rw [g 8 (by decide)]; exact k2
  · unfold FrO at *; rw [g2 66 (by decide)]; exact k3
  · unfold FrO at *; rw [g 19 (by decide), g2 69 (by decide)]; exact k4
  · unfold FrO at *; rw [g2 73 (by decide), g2 68 (by decide)]; exact k5
/-- a row that is one of the fillings may be looked at -/
theorem look_ok {c fr pa i : Nat} {t : Nat → Nat} {G : List (List (Nat × Nat))} (hc : c ≤ 18) (hfr : fr < 2 ^ c) (hV : ∀ e ∈ G, VE fr pa e) (hi : i < G.length) (h : ∀ k, k < c → rowL G[i] k = t k) : LKok (some c) t ∧ ∀ k, k < c → t k ≤ 60 := by
  have hv := hV _ (List.getElem_mem hi)
  have hle : ∀ k, k < c → t k ≤ 60 := fun k hk => by rw [← h k hk]; have := hv.lt (k := k); omega
  refine ⟨⟨by show c ≤ 121; omega, hle, ?_⟩, hle⟩
  intro d hd ⟨j, hj, e⟩
  have hj : j < c := hj
  obtain ⟨p, p1, p2, p3, p4⟩ := hv.twin hfr d hd ⟨j, hj, by rw [h j hj]; exact e⟩
  refine ⟨p, p1, by rw [← h p (by omega)]; exact p2, by rw [← h _ p1]; exact p3, fun j' hj' e' => ?_⟩
  have hj' : j' < c := hj'
  exact p4 j' hj' (by rw [h j' hj']; exact e')
def rkS (S : St) (t : Nat → Nat) : Option Nat := fI (fR S).1 t (FL (fR S).1 (fR S).2.1 (fR S).2.2.1 (fR S).2.2.2)
def rkN (S : St) (t : Nat → Nat) : St := if (rkS S t).isSome = true then lookS S (fR S).1 t else S
section RANK
variable {n : Nat} {x : Nat → Nat → Int32} {w : Int64} {I : Nat → Nat → Int32} {L : Nat → Nat → Int64} {Q : Nat → Nat → Option Nat} {D : Nat → Bool} {S : St} {t : Nat → Nat}
theorem c_lookAt (hB : BND) (hc : CI PCc n x I L Q D S) (h63 : ∀ k, k < (fR S).1 → I 63 (k + 1) = nI (t k)) (ht : ∀ k, k < (fR S).1 → t k < 2 ^ 31) : ∃ x' I' L', f_X6_lookAtTold (MM n x w I L Q D) 0 = some (lI (rkS S t), MM n x' w I' L' Q D) ∧ CI PCc n x' I' L' Q D (rkN S t) ∧ SM x I x' I' := by
  have hw : WF (fR S).1 (fR S).2.1 (fR S).2.2.1 (fR S).2.2.2 := hc.2.2.2.2.1.1
  obtain ⟨x1, I1, L1, e1, e2, e3, e4, e5, e6, e7⟩ := c_counted (w := w) hB hc
  have hx1 : FrC x1 I1 6 (fR S).1 (fR S).2.1 (fR S).2.2.1 (fR S).2.2.2 := e2.2.2.2.2.1.2
  have hlen := FL_len hB hw
  have hrk : f_X1_rankOf (MM n x1 w I1 L1 Q D) 14 63 = some (lI (rkS S t)) := c_rankOf (len := 0) hw.1 hw.2.2.2.1 (fun e he => FL_VE he) (plM_lt hw.2.1) FL_pw hlen e3.1 e3.2.1 e3.2.2.1 (fun i h => e3.2.2.2.2.2 i h (by omega)) (fun k hk => by rw [e6 63 (by omega)]; exact h63 k hk) ht
  have hstart : ∀ R : Int32, f_X1_rankOf (MM n x1 w I1 L1 Q D) 14 63 = some R → f_X6_lookAtTold (MM n x w I L Q D) 0 = if R = (-1 : Int32) then some (R, MM n x1 w I1 L1 Q D) else (f_X4_take (MM n x1 w I1 L1 Q D) 60 63 (nI (fR S).1)).bind fun h8 => some (R, h8) := fun R hrk => by
    unfold f_X6_lookAtTold
    rw [o_0, if_pos rfl, e1, ob_s]
    dsimp only
    rw [r_0_13, ob_s, o_14, if_pos rfl, hrk, ob_s, r_0_12, ob_s, ob_s, r_0_4, ob_s, g_6_0, ob_s, hx1.1, o_60, if_pos rfl]
  rw [hstart _ hrk]
  cases hf : rkS S t with
  | none =>
    refine ⟨x1, I1, L1, ?_, ?_, e4⟩
    · rw [if_pos (show lI none = (-1 : Int32) from rfl)]
    · unfold rkN
      rw [hf, if_neg (by decide)]
      exact e2
  | some i =>
    obtain ⟨a1, a2⟩ := fI_some hf
    obtain ⟨b1, b2⟩ := look_ok hw.1 (plM_lt hw.2.1) (fun e he => FL_VE he) a1 a2
    obtain ⟨I2, d1, d2, d3⟩ := c_take (n := n) (x := x1) (w := w) (I := I1) (L := L1) (Q := Q) (D := D) (t := t) hw.1 b2 (fun k hk => by rw [e6 63 (by omega)]; exact h63 k hk)
    have hil : i < 2 ^ 31 := by
      have := Nat.lt_of_lt_of_le a1 hlen
      omega
    refine ⟨s2 x1 60 2 (nI (fR S).1), I2, L1, ?_, ?_, fun a h1 h2 => ⟨by rw [s2_row (by omega)]; exact (e4 a h1 h2).1, by rw [d3 a (by omega) (by omega)]; exact (e4 a h1 h2).2⟩⟩
    · rw [if_neg (show ¬ lI (some i) = (-1 : Int32) from nI_NO hil), d1, ob_s]
    · unfold rkN
      rw [hf, if_pos (show (some i).isSome = true from rfl)]
      exact e2.look pcc_ok b1 d2 (fun a ha => s2_row ha) d3
theorem m_ranked (hB : BND) (hw : WFf (fR S)) (hm : MI x I S) (h76 : ∀ k, k < (fR S).1 → I 76 k = nI (t k)) (ht : ∀ k, k < (fR S).1 → t k < 2 ^ 31) : ∃ x' I', f_X7_ranked (MM n x w I L Q D) 64 = some (lI (rkS S t), MM n x' w I' L Q D) ∧ MI x' I' (rkN S t) ∧ SC x I x' I' := by
  have hw : WF (fR S).1 (fR S).2.1 (fR S).2.2.1 (fR S).2.2.2 := hw
  have hlen := FL_len hB hw
  obtain ⟨x1, I1, e1, e2, e3, e4, -⟩ := m_allN (n := n) (w := w) (L := L) (Q := Q) (D := D) (x := x) (a := 66) (W := NO) (Or.inl rfl) hm.2.2.1.m0 hw
  have h26 : x1 64 26 = lI (rkS S t) := by
    rw [e3, rkL_fI h76 ht (fun e he i => (FL_VE he).lt.1) FL_pw]
    unfold rkS
    cases fI (fR S).1 t (FL (fR S).1 (fR S).2.1 (fR S).2.2.1 (fR S).2.2.2) with
    | none => rfl
    | some i => show nI (0 + i) = nI i; rw [Nat.zero_add]
  have h66 : aI (MM n x1 w I1 L Q D) 0 66 0 = some (nI (fR S).1) := by
    rw [show aI (MM n x1 w I1 L Q D) 0 66 0 = some (I1 66 0) from m_at (j := 0) rfl (by decide), e4 66 (by decide) (by decide) (by decide), hm.2.2.1.m0.1]
  have hstart : ∀ R : Int32, x1 64 26 = R → f_X7_ranked (MM n x w I L Q D) 64 = if R = (-1 : Int32) then some (R, MM n x1 w I1 L Q D) else (f_X7_looks (MM n x1 w I1 L Q D) 64 76 (nI (fR S).1)).bind fun h8 => (gI h8 64 7 26).bind fun x9 => some (x9, h8) := fun R h26 => by
    unfold f_X7_ranked
    rw [r_64_11, ob_s, o_64, if_pos rfl, liN, e1, ob_s]
    dsimp only
    rw [g_64_26, ob_s, h26, ob_s, r_64_22, ob_s, r_64_11, ob_s, h66, ob_s, o_64, if_pos rfl]
  rw [hstart _ h26]
  have hm1 : MI x1 I1 S := hm.all e2 e4
  cases hf : rkS S t with
  | none =>
    refine ⟨x1, I1, ?_, ?_, SC.all e2 e4⟩
    · rw [if_pos (show lI none = (-1 : Int32) from rfl)]
    · unfold rkN
      rw [hf, if_neg (by decide)]
      exact hm1
  | some i =>
    obtain ⟨a1, a2⟩ := fI_some hf
    have hil : i < 2 ^ 31 := by
      have := Nat.lt_of_lt_of_le a1 hlen
      omega
    have hc18 := hw.1
    obtain ⟨I2, d1, d2, d3⟩ := m_looks (n := n) (x := x1) (w := w) (I := I1) (L := L) (Q := Q) (D := D) (a := 76) (la := 18) (t := t) rfl (by decide) (by decide) (c := (fR S).1) (by omega) (by omega) (fun k hk => by rw [e4 76 (by decide) (by decide) (by decide)]; exact h76 k hk)
    refine ⟨s2 x1 64 28 (nI (fR S).1), I2, ?_, ?_, (SC.all e2 e4).tr (fun a ha => ⟨s2_row (by omega), d3 a (by omega)⟩)⟩
    · rw [if_neg (show ¬ lI (some i) = (-1 : Int32) from nI_NO hil), d1, ob_s, g_64_26, ob_s, s2_ne (by decide), h26, hf]
    · unfold rkN
      rw [hf, if_pos (show (some i).isSome = true from rfl)]
      exact hm1.look d2 (fun j hj => s2_ne (by omega)) d3
theorem byN_and : ∀ b, b < 256 → byN b &&& 255 = nI b := by decide +kernel
theorem c_rank_l (hc : (fR S).1 ≤ 18) {b : Nat → Nat} (hb : ∀ j, j < (fR S).1 → b j < 256) : ∀ (j u fu : Nat) (I : Nat → Nat → Int32), u + j = (fR S).1 → j < fu → (∀ j, j < (fR S).1 → I 1 j = byN (b j)) → (∀ k, k < u → I 63 (k + 1) = nI (b k)) → ∃ I', f_X6_rank_25 fu 0 (nI (fR S).1) (nI (u + 1)) (MM n x w I L Q D) = (f_X6_lookAtTold (MM n x w I' L Q D) 0).bind (fun x1 => some (x1.1, x1.2)) ∧ (∀ k, k < (fR S).1 → I' 63 (k + 1) = nI (b k)) ∧ ∀ e, e ≠ 63 → I' e = I e
  | 0, u, fu, I, h, hf, h1, h63 => by
    obtain ⟨fu, rfl⟩ : ∃ n9, fu = n9 + 1 := ⟨fu - 1, by omega⟩
    refine ⟨I, ?_, by rw [← h]; exact h63, fun _ _ => rfl⟩
    rw [f_X6_rank_25, if_pos (nI_lt (by omega) (by omega)), o_0, if_pos rfl]
  | j + 1, u, fu, I, h, hf, h1, h63 => by
    obtain ⟨fu, rfl⟩ : ∃ n9, fu = n9 + 1 := ⟨fu - 1, by omega⟩
    obtain ⟨I', e1, e2, e3⟩ := c_rank_l hc hb j (u + 1) fu (s2 I 63 (u + 1) (nI (b u))) (by omega) (by omega) (fun j hj => by rw [s2_ne (by omega)]; exact h1 j hj) (fun k hk => by
      rw [s2_at]
      by_cases z : k = u
      · rw [if_pos ⟨rfl, by omega⟩, z]
      · rw [if_neg (by omega)]; exact h63 k (by omega))
    refine ⟨I', ?_, e2, fun e he => by rw [e3 e he, s2_row he]⟩
    rw [f_X6_rank_25, if_neg (nI_nlt (by omega) (by omega)), if_neg (show ¬ (18 : Int32) < nI (u + 1) from nI_nlt (a := 18) (by omega) (by decide)), r_0_13, ob_s, r_0_0, ob_s, nI_pred, a_at (a := 1) (len := 340) rfl (Or.inr (Or.inl rfl)) (by omega) (by decide), ob_s, h1 u (by omega), byN_and _ (hb u (by omega)), a_set (a := 63) (len := 19) rfl (Or.inl rfl) (by omega) (by decide), ob_s, nI_1]
    exact e1
theorem m_rank_l (hc : (fR S).1 ≤ 18) {b : Nat → Nat} : ∀ (j u fu : Nat) (I : Nat → Nat → Int32), u + j = (fR S).1 → j < fu → (∀ j, j < (fR S).1 → I 65 j = nI (b j)) → (∀ k, k < u → I 76 k = nI (b k)) → ∃ I', f_X7_rank_29 fu 64 (nI (fR S).1) (nI u) (MM n x w I L Q D) = (f_X7_ranked (MM n x w I' L Q D) 64).bind (fun x1 => some (x1.1, x1.2)) ∧ (∀ k, k < (fR S).1 → I' 76 k = nI (b k)) ∧ ∀ e, e ≠ 76 → I' e = I e
  | 0, u, fu, I, h, hf, h1, h63 => by
    obtain ⟨fu, rfl⟩ : ∃ n9, fu = n9 + 1 := ⟨fu - 1, by omega⟩
    refine ⟨I, ?_, by rw [← h]; exact h63, fun _ _ => rfl⟩
    rw [f_X7_rank_29, if_pos (nI_le (by omega) (by omega)), o_64, if_pos rfl]
  | j + 1, u, fu, I, h, hf, h1, h63 => by
    obtain ⟨fu, rfl⟩ : ∃ n9, fu = n9 + 1 := ⟨fu - 1, by omega⟩
    obtain ⟨I', e1, e2, e3⟩ := m_rank_l hc j (u + 1) fu (s2 I 76 u (nI (b u))) (by omega) (by omega) (fun j hj => by rw [s2_ne (by omega)]; exact h1 j hj) (fun k hk => by
      rw [s2_at]
      by_cases z : k = u
      · rw [if_pos ⟨rfl, by omega⟩, z]
      · rw [if_neg (by omega)]; exact h63 k (by omega))
    refine ⟨I', ?_, e2, fun e he => by rw [e3 e he, s2_row he]⟩
    rw [f_X7_rank_29, if_neg (nI_ge (by omega) (by omega)), r_64_22, ob_s, r_64_1, ob_s, a_at (a := 65) (len := 340) rfl (Or.inl rfl) (by omega) (by decide), ob_s, h1 u (by omega), a_set (a := 76) (len := 18) rfl (Or.inl rfl) (by omega) (by decide), ob_s, nI_1]
    exact e1
end RANK
def tape0 (S : St) : St := (0, S.2.1, S.2.2)
theorem rkS_tape {S : St} {t : Nat → Nat} : rkS (tape0 S) t = rkS S t := by
  unfold rkS
  rw [show fR (tape0 S) = fR S from rfl]
theorem s_rank (hB : BND) : S_rank (INVp PCc) := by
  intro h hI
  refine both (fC := fun h => f_X6_rank h 0) (fM := fun h => f_X7_rank h 64) pcc_ok.sc (fun S => if tL S = (fR S).1 then lI (rkS S (tB S)) else NO) (fun S => if tL S = (fR S).1 then rkN (tape0 S) (tB S) else tape0 S) (fun n x w I L Q D S hc => ?_) (fun n x w I L Q D S hb hm => ?_) hI
  · have hw : WF (fR S).1 (fR S).2.1 (fR S).2.2.1 (fR S).2.2.2 := hc.2.2.2.2.1.1
    have hx : FrC x I 6 (fR S).1 (fR S).2.1 (fR S).2.2.1 (fR S).2.2.2 := hc.2.2.2.2.1.2
    have h18 := hw.1
    have h0 : CI PCc n (s2 x 0 1 0) I L Q D (tape0 S) := hc.tape pcc_ok (t := 0) (by omega) (fun _ _ => rfl) (fun j hj => absurd hj (Nat.not_lt_zero j))
    have htl := hc.2.2.1.1
    have hstart : f_X6_rank (MM n x w I L Q D) 0 = if nI (tL S) = nI (fR S).1 then (f_X6_rank_25 4096 0 (nI (tL S)) (1 : Int32) (MM n (s2 x 0 1 0) w I L Q D)) else (some (NO, MM n (s2 x 0 1 0) w I L Q D)) := by
      unfold f_X6_rank
      rw [g_0_1, ob_s, p_0_1, ob_s, r_0_4, ob_s, g_6_0, ob_s, s2_ne (by decide), hx.1, hc.2.2.1.2.1]
      rfl
    show ∃ n' x' I' L' Q' D', f_X6_rank (MM n x w I L Q D) 0 = _ ∧ _
    rw [hstart]
    by_cases z : tL S = (fR S).1
    · obtain ⟨I1, e1, e2, e3⟩ := c_rank_l (n := n) (x := s2 x 0 1 0) (w := w) (L := L) (Q := Q) (D := D) (S := S) h18 (b := tB S) (fun j hj => (hc.2.2.1.2.2 j (by omega)).1) (fR S).1 0 4096 I (by omega) (by omega) (fun j hj => (hc.2.2.1.2.2 j (by omega)).2) (fun k hk => absurd hk (Nat.not_lt_zero k))
      have h1 : CI PCc n (s2 x 0 1 0) I1 L Q D (tape0 S) := h0.cong (fun _ _ => rfl) (fun a ha => e3 a (by omega)) (pcc_ok.2 _ I L _ I1 L _ rfl (fun a k1 k2 => e3 a (by omega)) rfl rfl h0.2.2.2.2.2.2.2.2)
      obtain ⟨x2, I2, L2, d1, d2, d3⟩ := c_lookAt (w := w) (t := tB S) hB h1 e2 (fun k hk => by have := (hc.2.2.1.2.2 k (by have : k < (fR S).1 := hk; omega)).1; omega)
      refine ⟨n, x2, I2, L2, Q, D, ?_, ?_, fun a k1 k2 => ⟨by rw [(d3 a k1 k2).1, s2_row (by omega)], by rw [(d3 a k1 k2).2, e3 a (by omega)]⟩⟩
      · rw [if_pos (by rw [z]), if_pos z, z]
        show f_X6_rank_25 4096 0 (nI (fR S).1) (nI (0 + 1)) _ = _
        rw [rkS_tape] at d1
        rw [e1, d1, ob_s]
      · rw [if_pos z]
        exact d2
    · refine ⟨n, s2 x 0 1 0, I, L, Q, D, ?_, ?_, fun a k1 k2 => ⟨s2_row (by omega), rfl⟩⟩
      · rw [if_neg (fun y => z ((nI_eq (by omega) (by omega)).mp y)), if_neg z]
      · rw [if_neg z]; exact h0
  · have hw : WF (fR S).1 (fR S).2.1 (fR S).2.2.1 (fR S).2.2.2 := hb.1
    have h18 := hw.1
    have htl := hb.2.2.1
    have hm0 : MI (s2 (s2 x 64 0 0) 64 2 0) I (tape0 S) := (hm.thrown (v := 0)).tape (t := 0) (fun _ _ => rfl) (fun j hj => absurd hj (Nat.not_lt_zero j))
    have hsc : SC x I (s2 (s2 x 64 0 0) 64 2 0) I := fun a ha => ⟨by rw [s2_row (by omega), s2_row (by omega)], rfl⟩
    have hstart : f_X7_rank (MM n x w I L Q D) 64 = if nI (tL S) = nI (fR S).1 then (f_X7_rank_29 4096 64 (nI (tL S)) (0 : Int32) (MM n (s2 (s2 x 64 0 0) 64 2 0) w I L Q D)) else (some (NO, MM n (s2 (s2 x 64 0 0) 64 2 0) w I L Q D)) := by
      unfold f_X7_rank
      rw [p_64_0, ob_s, g_64_2, ob_s, p_64_2, ob_s, r_64_11, ob_s, show aI (MM n (s2 (s2 x 64 0 0) 64 2 0) w I L Q D) 0 66 0 = some (I 66 0) from m_at (j := 0) rfl (by decide), ob_s, hm.2.2.1.m0.1, s2_ne (by decide), hm.1.1]
      rfl
    show ∃ x' w' I', f_X7_rank (MM n x w I L Q D) 64 = _ ∧ _
    rw [hstart]
    by_cases z : tL S = (fR S).1
    · obtain ⟨I1, e1, e2, e3⟩ := m_rank_l (n := n) (x := s2 (s2 x 64 0 0) 64 2 0) (w := w) (L := L) (Q := Q) (D := D) (S := S) h18 (b := tB S) (fR S).1 0 4096 I (by omega) (by omega) (fun j hj => hm.1.2 j (by omega)) (fun k hk => absurd hk (Nat.not_lt_zero k))
      have hm1 : MI (s2 (s2 x 64 0 0) 64 2 0) I1 (tape0 S) := hm0.cong rfl rfl rfl rfl (fun a ha => e3 a (by omega))
      obtain ⟨x2, I2, d1, d2, d3⟩ := m_ranked (n := n) (w := w) (L := L) (Q := Q) (D := D) (S := tape0 S) (t := tB S) hB hb.1 hm1 e2 (fun k hk => by have := hb.2.2.2.1 k (by have : k < (fR S).1 := hk; omega); omega)
      refine ⟨x2, w, I2, ?_, ?_, hsc.tr (SC.tr (fun a ha => ⟨rfl, e3 a (by omega)⟩) d3)⟩
      · rw [if_pos (by rw [z]), if_pos z, z]
        show f_X7_rank_29 4096 64 (nI (fR S).1) (nI 0) _ = _
        rw [rkS_tape] at d1
        rw [e1, d1, ob_s]
      · rw [if_pos z]
        exact d2
    · refine ⟨s2 (s2 x 64 0 0) 64 2 0, w, I, ?_, ?_, hsc⟩
      · rw [if_neg (fun y => z ((nI_eq (by omega) (by omega)).mp y)), if_neg z]
      · rw [if_neg z]; exact hm0
