/-! behind, row -/
def bhT (S : St) : Nat → Nat := fun k => lR S ((fR S).1 - 1 - k)
section BEH
variable {n : Nat} {x : Nat → Nat → Int32} {w : Int64} {I : Nat → Nat → Int32} {L : Nat → Nat → Int64} {Q : Nat → Nat → Option Nat} {D : Nat → Bool} {S : St}
theorem c_behind_l (hc : (fR S).1 ≤ 18) (hk : LKok (some (fR S).1) (lR S)) : ∀ (j u fu : Nat) (I : Nat → Nat → Int32), u + j = (fR S).1 → j < fu → LKC x I (some (fR S).1) (lR S) → (∀ k, k < u → I 63 (k + 1) = nI (bhT S k)) → ∃ I', f_X6_behind_23 fu 0 (nI (fR S).1) (nI (u + 1)) (MM n x w I L Q D) = (f_X6_lookAtTold (MM n x w I' L Q D) 0).bind (fun x1 => some (x1.1, x1.2)) ∧ (∀ k, k < (fR S).1 → I' 63 (k + 1) = nI (bhT S k)) ∧ ∀ e, e ≠ 63 → I' e = I e
  | 0, u, fu, I, h, hf, h1, h63 => by
    obtain ⟨fu, rfl⟩ : ∃ n9, fu = n9 + 1 := ⟨fu - 1, by omega⟩
    refine ⟨I, ?_, by rw [← h]; exact h63, fun _ _ => rfl⟩
    rw [f_X6_behind_23, if_pos (nI_lt (by omega) (by omega)), o_0, if_pos rfl]
  | j + 1, u, fu, I, h, hf, h1, h63 => by
    obtain ⟨fu, rfl⟩ : ∃ n9, fu = n9 + 1 := ⟨fu - 1, by omega⟩
    have h1' : LKC x (s2 I 63 (u + 1) (nI (bhT S u))) (some (fR S).1) (lR S) := by
      unfold LKC at *
      rw [s2_row (by decide), s2_row (by decide)]
      exact h1
    obtain ⟨I', e1, e2, e3⟩ := c_behind_l hc hk j (u + 1) fu (s2 I 63 (u + 1) (nI (bhT S u))) (by omega) (by omega) h1' (fun k hk => by
      rw [s2_at]
      by_cases z : k = u
      · rw [if_pos ⟨rfl, by omega⟩, z]
      · rw [if_neg (by omega)]; exact h63 k (by omega))
    refine ⟨I', ?_, e2, fun e he => by rw [e3 e he, s2_row he]⟩
    have ea : nI (fR S).1 + 1 - nI (u + 1) = nI ((fR S).1 - u) := by
      rw [nI_1, pk_sub (by omega)]
      congr 1
      omega
    have en : f_X4_numberAt (MM n x w I L Q D) 60 (nI ((fR S).1 - u)) = some (nI (bhT S u)) := by
      rw [c_numberAt hk h1 (by omega), if_pos (show 1 ≤ (fR S).1 - u ∧ (fR S).1 - u ≤ lK (some (fR S).1) from (show 1 ≤ (fR S).1 - u ∧ (fR S).1 - u ≤ (fR S).1 by omega))]
      unfold bhT
      rw [show (fR S).1 - u - 1 = (fR S).1 - 1 - u by omega]
    rw [f_X6_behind_23, if_neg (nI_nlt (by omega) (by omega)), if_neg (show ¬ (18 : Int32) < nI (u + 1) from nI_nlt (a := 18) (by omega) (by decide)), r_0_13, ob_s, r_0_12, ob_s, o_60, if_pos rfl, ea, en, ob_s, a_set (a := 63) (len := 19) rfl (Or.inl rfl) (by omega) (by decide), ob_s, nI_1]
    exact e1
theorem m_behind_l (hc : (fR S).1 ≤ 18) : ∀ (j u fu : Nat) (I : Nat → Nat → Int32), u + j = (fR S).1 → j < fu → LKM x I (some (fR S).1) (lR S) → (∀ k, k < u → I 76 k = nI (bhT S k)) → ∃ I', f_X7_behind_22 fu 64 (nI u) (MM n x w I L Q D) = (f_X7_ranked (MM n x w I' L Q D) 64).bind (fun x1 => some (x1.1, x1.2)) ∧ (∀ k, k < (fR S).1 → I' 76 k = nI (bhT S k)) ∧ ∀ e, e ≠ 76 → I' e = I e
  | 0, u, fu, I, h, hf, h1, h63 => by
    obtain ⟨fu, rfl⟩ : ∃ n9, fu = n9 + 1 := ⟨fu - 1, by omega⟩
    refine ⟨I, ?_, by rw [← h]; exact h63, fun _ _ => rfl⟩
    rw [f_X7_behind_22, g_64_28, ob_s, h1.1, if_pos (show lI (some (fR S).1) ≤ nI u from nI_le (by omega) (by omega)), o_64, if_pos rfl]
  | j + 1, u, fu, I, h, hf, h1, h63 => by
    obtain ⟨fu, rfl⟩ : ∃ n9, fu = n9 + 1 := ⟨fu - 1, by omega⟩
    have h1' : LKM x (s2 I 76 u (nI (bhT S u))) (some (fR S).1) (lR S) := by
      unfold LKM at *
      rw [s2_row (by decide)]
      exact h1
    obtain ⟨I', e1, e2, e3⟩ := m_behind_l hc j (u + 1) fu (s2 I 76 u (nI (bhT S u))) (by omega) (by omega) h1' (fun k hk => by
      rw [s2_at]
      by_cases z : k = u
      · rw [if_pos ⟨rfl, by omega⟩, z]
      · rw [if_neg (by omega)]; exact h63 k (by omega))
    refine ⟨I', ?_, e2, fun e he => by rw [e3 e he, s2_row he]⟩
    have h28 : x 64 28 = nI (fR S).1 := h1.1
    have ea : nI (fR S).1 - 1 - nI u = nI ((fR S).1 - 1 - u) := by
      rw [li1, pk_sub (by omega), pk_sub (by omega)]
    have er := h1.2 ((fR S).1 - 1 - u) (show (fR S).1 - 1 - u < (fR S).1 by omega)
    rw [f_X7_behind_22, g_64_28, ob_s, h28, if_neg (nI_ge (by omega) (by omega)), r_64_22, ob_s, r_64_27, ob_s, ob_s, ea, a_at (a := 78) (len := 121) rfl (Or.inl rfl) (by omega) (by decide), ob_s, er, a_set (a := 76) (len := 18) rfl (Or.inl rfl) (by omega) (by decide), ob_s, nI_1]
    exact e1
end BEH
theorem lI_c {m : Option Nat} {c : Nat} (h : lK m ≤ 121) (hc : c ≤ 18) : lI m = nI c ↔ m = some c := by
  cases m with
  | none => exact ⟨fun z => absurd z.symm (nI_NO (by omega)), fun z => by cases z⟩
  | some k =>
    have h : k ≤ 121 := h
    constructor
    · intro z
      have : k = c := (nI_eq (by omega) (by omega)).mp z
      rw [this]
    · intro z
      cases z
      rfl
theorem s_behind (hB : BND) : S_behind (INVp PCc) := by
  intro h hI
  refine both (fC := fun h => f_X6_behind h 0) (fM := fun h => f_X7_behind h 64) pcc_ok.sc (fun S => if lN9 S = some (fR S).1 then lI (rkS S (bhT S)) else NO) (fun S => if lN9 S = some (fR S).1 then rkN S (bhT S) else S) (fun n x w I L Q D S hc => ?_) (fun n x w I L Q D S hb hm => ?_) hI
  · have hw : WF (fR S).1 (fR S).2.1 (fR S).2.2.1 (fR S).2.2.2 := hc.2.2.2.2.1.1
    have hx : FrC x I 6 (fR S).1 (fR S).2.1 (fR S).2.2.1 (fR S).2.2.2 := hc.2.2.2.2.1.2
    have h18 := hw.1
    have hl := hc.2.2.2.2.2.2.2.1
    have hstart : f_X6_behind (MM n x w I L Q D) 0 = if lI (lN9 S) = nI (fR S).1 then (f_X6_behind_23 4096 0 (lI (lN9 S)) (1 : Int32) (MM n x w I L Q D)) else (some (NO, MM n x w I L Q D)) := by
      unfold f_X6_behind
      rw [r_0_12, ob_s, g_60_2, ob_s, r_0_4, ob_s, g_6_0, ob_s, hx.1, hl.2.1]
      rfl
    show ∃ n' x' I' L' Q' D', f_X6_behind (MM n x w I L Q D) 0 = _ ∧ _
    rw [hstart]
    by_cases z : lN9 S = some (fR S).1
    · rw [z] at hl
      obtain ⟨I1, e1, e2, e3⟩ := c_behind_l (n := n) (x := x) (w := w) (L := L) (Q := Q) (D := D) (S := S) h18 hl.1 (fR S).1 0 4096 I (by omega) (by omega) hl.2 (fun k hk => absurd hk (Nat.not_lt_zero k))
      have h1 : CI PCc n x I1 L Q D S := hc.cong (fun _ _ => rfl) (fun a ha => e3 a (by omega)) (pcc_ok.2 _ I L _ I1 L _ rfl (fun a k1 k2 => e3 a (by omega)) rfl rfl hc.2.2.2.2.2.2.2.2)
      obtain ⟨x2, I2, L2, d1, d2, d3⟩ := c_lookAt (w := w) (t := bhT S) hB h1 e2 (fun k hk => by have := hl.1.2.1 ((fR S).1 - 1 - k) (show (fR S).1 - 1 - k < (fR S).1 by omega); unfold bhT; omega)
      refine ⟨n, x2, I2, L2, Q, D, ?_, ?_, fun a k1 k2 => ⟨(d3 a k1 k2).1, by rw [(d3 a k1 k2).2, e3 a (by omega)]⟩⟩
      · rw [if_pos ((lI_c hc.2.2.2.2.2.2.2.1.1.1 h18).mpr z), if_pos z, z]
        show f_X6_behind_23 4096 0 (nI (fR S).1) (nI (0 + 1)) _ = _
        rw [e1, d1, ob_s]
      · rw [if_pos z]
        exact d2
    · refine ⟨n, x, I, L, Q, D, ?_, ?_, SM.rf⟩
      · rw [if_neg (fun y => z ((lI_c hl.1.1 h18).mp y)), if_neg z]
      · rw [if_neg z]; exact hc
  · have hw : WF (fR S).1 (fR S).2.1 (fR S).2.2.1 (fR S).2.2.2 := hb.1
    have h18 := hw.1
    have hl := hm.2.2.2.2.2
    have hm0 : MI (s2 x 64 0 0) I S := hm.thrown
    have hstart : f_X7_behind (MM n x w I L Q D) 64 = if lI (lN9 S) = nI (fR S).1 then (f_X7_behind_22 4096 64 (0 : Int32) (MM n (s2 x 64 0 0) w I L Q D)) else (some (NO, MM n (s2 x 64 0 0) w I L Q D)) := by
      unfold f_X7_behind
      rw [p_64_0, ob_s, g_64_28, ob_s, r_64_11, ob_s, show aI (MM n (s2 x 64 0 0) w I L Q D) 0 66 0 = some (I 66 0) from m_at (j := 0) rfl (by decide), ob_s, hm.2.2.1.m0.1, s2_ne (by decide), hl.1]
      rfl
    show ∃ x' w' I', f_X7_behind (MM n x w I L Q D) 64 = _ ∧ _
    rw [hstart]
    by_cases z : lN9 S = some (fR S).1
    · have hl1 := hl.thr (v := 0)
      rw [z] at hl1
      obtain ⟨I1, e1, e2, e3⟩ := m_behind_l (n := n) (x := s2 x 64 0 0) (w := w) (L := L) (Q := Q) (D := D) (S := S) h18 (fR S).1 0 4096 I (by omega) (by omega) hl1 (fun k hk => absurd hk (Nat.not_lt_zero k))
      have hm1 : MI (s2 x 64 0 0) I1 S := hm0.cong rfl rfl rfl rfl (fun a ha => e3 a (by omega))
      obtain ⟨x2, I2, d1, d2, d3⟩ := m_ranked (n := n) (w := w) (L := L) (Q := Q) (D := D) (S := S) (t := bhT S) hB hb.1 hm1 e2 (fun k hk => by
        have := hb.2.2.2.2
        rw [z] at this
        have := this.2.1 ((fR S).1 - 1 - k) (show (fR S).1 - 1 - k < (fR S).1 by omega)
        unfold bhT
        omega)
      refine ⟨x2, w, I2, ?_, ?_, SC.s2x.tr (SC.tr (fun a ha => ⟨rfl, e3 a (by omega)⟩) d3)⟩
      · rw [if_pos ((lI_c hb.2.2.2.2.1 h18).mpr z), if_pos z]
        show f_X7_behind_22 4096 64 (nI 0) _ = _
        rw [e1, d1, ob_s]
      · rw [if_pos z]
        exact d2
    · refine ⟨s2 x 64 0 0, w, I, ?_, ?_, SC.s2x⟩
      · rw [if_neg (fun y => z ((lI_c hb.2.2.2.2.1 h18).mp y)), if_neg z]
      · rw [if_neg z]; exact hm0
/-! row -/
theorem getD9 {G : List (List (Nat × Nat))} {i : Nat} (h : i < G.length) : G.getD i [] = G[i] := by
  rw [List.getD_eq_getElem?_getD, List.getElem?_eq_getElem h]
  rfl
theorem CI.room {PC : PCt} {n m : Nat} {x I : Nat → Nat → Int32} {L : Nat → Nat → Int64} {Q : Nat → Nat → Option Nat} {D : Nat → Bool} {S : St} (k : CI PC n x I L Q D S) (h : n ≤ m) : CI PC m x I L Q D S := ⟨⟨by have := k.1.1; omega, fun j hj => by have := k.1.2 j hj; omega⟩, k.2⟩
theorem VE_getD {G : List (List (Nat × Nat))} {fr un i : Nat} (hV : ∀ e ∈ G, VE fr un e) (h : i < G.length) : VE fr un (G.getD i []) := by
  rw [getD9 h]
  exact hV _ (List.getElem_mem h)
theorem num_getD {G : List (List (Nat × Nat))} {V : Nat × Nat → Int64} {l : Int64} {i : Nat} (h : i < G.length) (e : l = vl V G[i]) : l = vl V (G.getD i []) := by
  rw [getD9 h]
  exact e
theorem look_okD {c fr pa i : Nat} {t : Nat → Nat} {G : List (List (Nat × Nat))} (hc : c ≤ 18) (hfr : fr < 2 ^ c) (hV : ∀ e ∈ G, VE fr pa e) (hi : i < G.length) (ht : t = rowL (G.getD i [])) : LKok (some c) t ∧ ∀ k, k < c → t k ≤ 60 := look_ok hc hfr hV hi (fun k _ => by rw [ht, getD9 hi])
theorem row_getD {G : List (List (Nat × Nat))} {t : Nat → Nat} {i k : Nat} {l : Int32} (h : i < G.length) (ht : t = rowL (G.getD i [])) (e : l = nI (rowL G[i] k)) : l = nI (t k) := by
  rw [ht, getD9 h]
  exact e
section ROW
variable {n : Nat} {x : Nat → Nat → Int32} {w : Int64} {I : Nat → Nat → Int32} {L : Nat → Nat → Int64} {Q : Nat → Nat → Option Nat} {D : Nat → Bool} {S : St}
/-- the model refuses a rank -/
theorem m_row_no (hB : BND) {a : Int32} (hw : WFf (fR S)) (hm : MI x I S) (ha : ∀ i, i < (FL (fR S).1 (fR S).2.1 (fR S).2.2.1 (fR S).2.2.2).length → a ≠ nI i) : ∃ x' I', f_X7_row (MM n x w I L Q D) 64 a = some (0, MM n x' w I' L Q D) ∧ MI x' I' S ∧ SC x I x' I' ∧ x' 64 0 = 1 := by
  have hw : WF (fR S).1 (fR S).2.1 (fR S).2.2.1 (fR S).2.2.2 := hw
  have hm0 : MI (s2 x 64 0 0) I S := hm.thrown
  have href : ∀ x I : Nat → Nat → Int32, f_X7_refuse (MM n x w I L Q D) 64 = some (0, MM n (s2 x 64 0 1) w I L Q D) := fun x I => by
    unfold f_X7_refuse
    rw [p_64_0, ob_s]
  by_cases hq : a < 0
  · refine ⟨s2 (s2 x 64 0 0) 64 0 1, I, ?_, hm0.thrown, SC.s2x.tr SC.s2x, s2_e⟩
    unfold f_X7_row
    rw [p_64_0, ob_s, if_pos hq, o_64, if_pos rfl, href, ob_s]
  · obtain ⟨x1, I1, e1, e2, e3, e4, -⟩ := m_allN (n := n) (w := w) (L := L) (Q := Q) (D := D) (x := s2 x 64 0 0) (a := 66) (W := a) (Or.inl rfl) hm0.2.2.1.m0 hw
    have hlen := FL_len hB hw
    have hno : ¬ a < nI (FL (fR S).1 (fR S).2.1 (fR S).2.2.1 (fR S).2.2.2).length := by
      obtain ⟨j, hj, rfl⟩ := nI_of hq
      intro z
      have : j < (FL (fR S).1 (fR S).2.1 (fR S).2.2.1 (fR S).2.2.2).length := (nI_ltI hj (Nat.lt_of_le_of_lt hlen (by decide))).mp z
      exact ha j this rfl
    refine ⟨s2 x1 64 0 1, I1, ?_, (hm0.all e2 e4).thrown, (SC.s2x.tr (SC.all e2 e4)).tr SC.s2x, s2_e⟩
    unfold f_X7_row
    rw [p_64_0, ob_s, if_neg hq, r_64_11, ob_s, o_64, if_pos rfl, e1, ob_s]
    dsimp only
    rw [if_neg hno, o_64, if_pos rfl, href, ob_s]
theorem m_row_yes (hB : BND) {i : Nat} (hw : WFf (fR S)) (hm : MI x I S) (hi : i < (FL (fR S).1 (fR S).2.1 (fR S).2.2.1 (fR S).2.2.2).length) {t : Nat → Nat} (ht : t = rowL ((FL (fR S).1 (fR S).2.1 (fR S).2.2.1 (fR S).2.2.2).getD i [])) : ∃ x' I', f_X7_row (MM n x w I L Q D) 64 (nI i) = some (if (fR S).1 = 0 then NO else nI (t 0), MM n x' w I' L Q D) ∧ MI x' I' (lookS S (fR S).1 t) ∧ SC x I x' I' ∧ x' 64 0 = 0 := by
  have hw : WF (fR S).1 (fR S).2.1 (fR S).2.2.1 (fR S).2.2.2 := hw
  have hc18 := hw.1
  have hm0 : MI (s2 x 64 0 0) I S := hm.thrown
  have hlen := FL_len hB hw
  obtain ⟨x1, I1, e1, e2, e3, e4, e5, e6⟩ := m_allN (n := n) (w := w) (L := L) (Q := Q) (D := D) (x := s2 x 64 0 0) (a := 66) (W := nI i) (Or.inl rfl) hm0.2.2.1.m0 hw
  have hil : i < 2 ^ 31 := Nat.lt_trans hi (Nat.lt_of_le_of_lt hlen (by decide))
  have h75 : ∀ k, k < (fR S).1 → I1 75 k = nI (t k) := fun k hk => by
    exact row_getD hi ht (e6 i k hi (Nat.lt_of_le_of_lt hlen (by decide)) rfl hk)
  have hlt : nI i < nI (FL (fR S).1 (fR S).2.1 (fR S).2.2.1 (fR S).2.2.2).length := nI_lt hi (Nat.lt_of_le_of_lt hlen (by decide))
  have h66 : aI (MM n x1 w I1 L Q D) 0 66 0 = some (nI (fR S).1) := by
    rw [show aI (MM n x1 w I1 L Q D) 0 66 0 = some (I1 66 0) from m_at (j := 0) rfl (by decide), e4 66 (by decide) (by decide) (by decide), hm.2.2.1.m0.1]
  obtain ⟨I2, d1, d2, d3⟩ := m_looks (n := n) (x := x1) (w := w) (I := I1) (L := L) (Q := Q) (D := D) (a := 75) (la := 18) (t := t) rfl (by decide) (by decide) (c := (fR S).1) (by omega) (by omega) h75
  have d2' : LKM (s2 x1 64 28 (nI (fR S).1)) I2 (some (fR S).1) t := d2
  refine ⟨s2 x1 64 28 (nI (fR S).1), I2, ?_, (hm0.all e2 e4).look d2 (fun j hj => s2_ne (by omega)) d3, (SC.s2x.tr (SC.all e2 e4)).tr (fun a ha => ⟨s2_row (by omega), d3 a (by omega)⟩), ?_⟩
  · unfold f_X7_row
    rw [p_64_0, ob_s, if_neg (nI_pos hil), r_64_11, ob_s, o_64, if_pos rfl, e1, ob_s]
    dsimp only
    rw [if_pos hlt, r_64_21, ob_s, r_64_11, ob_s, h66, ob_s, o_64, if_pos rfl, d1, ob_s, g_64_28, ob_s, s2_e]
    by_cases z : (fR S).1 = 0
    · rw [if_pos (show nI (fR S).1 = 0 by rw [z]; rfl), if_pos z]
      rfl
    · rw [if_neg (nI_ne0 (by omega) (by omega)), if_neg z, r_64_27, ob_s, show aI (MM n (s2 x1 64 28 (nI (fR S).1)) w I2 L Q D) 0 78 0 = some (I2 78 0) from a_at (a := 78) (j := 0) (len := 121) rfl (Or.inl rfl) (by decide) (by decide), ob_s, d2'.2 0 (show 0 < (fR S).1 by omega)]
  · rw [s2_ne (by decide), e2 _ _ (by decide), s2_e]
end ROW
theorem num_of {b N : Nat} {x I : Nat → Nat → Int32} {L : Nat → Nat → Int64} {c ho pa i : Nat} {f : Nat → Nat} (h : CNT b N x I L c ho pa f) (hi : i < (FL c ho pa f).length) (hN : i < N) : L (b + 21) i = vl (VV c pa) ((FL c ho pa f).getD i []) := num_getD hi (h.2.2.2.2.2 i hi hN)
theorem row_pre {c ho pa i : Nat} {f t : Nat → Nat} {l : Int64} (hw : WF c ho pa f) (hi : i < (FL c ho pa f).length) (ht : t = rowL ((FL c ho pa f).getD i [])) (hl : l = vl (VV c pa) ((FL c ho pa f).getD i [])) : l = lN (nmH pa t c) ∧ LKok (some c) t ∧ (∀ k, k < c → t k ≤ 60) ∧ ∀ k, k < c → okT pa (t k) := by
  have hV : ∀ e ∈ FL c ho pa f, VE (plM c ho) pa e := fun e he => FL_VE he
  generalize FL c ho pa f = G at *
  have hv : VE (plM c ho) pa (G.getD i []) := VE_getD hV hi
  obtain ⟨b1, b2⟩ := look_okD hw.1 (plM_lt hw.2.1) hV hi ht
  refine ⟨?_, b1, b2, fun k _ => ?_⟩
  · rw [hl, ht, vl_nmH hv (plM_lt hw.2.1)]
  · rw [ht]; exact hv.ok
theorem row_fin (hB : BND) {n : Nat} {x1 I1 : Nat → Nat → Int32} {w : Int64} {L1 : Nat → Nat → Int64} {Q : Nat → Nat → Option Nat} {D : Nat → Bool} {S : St} {i : Nat} {t : Nat → Nat} (hw : WF (fR S).1 (fR S).2.1 (fR S).2.2.1 (fR S).2.2.2) (hm1 : MI x1 I1 S) (e2 : CI PCc n x1 I1 L1 Q D S) (e3 : CNT 14 2656 x1 I1 L1 (fR S).1 (fR S).2.1 (fR S).2.2.1 (fR S).2.2.2) (hx1 : FrC x1 I1 6 (fR S).1 (fR S).2.1 (fR S).2.2.1 (fR S).2.2.2) (hi : i < (FL (fR S).1 (fR S).2.1 (fR S).2.2.1 (fR S).2.2.2).length) (ht : t = rowL ((FL (fR S).1 (fR S).2.1 (fR S).2.2.1 (fR S).2.2.2).getD i [])) (hhas : f_X1_hasRank (MM n x1 w I1 L1 Q D) 14 (nI i) = some 1) (hnum : L1 35 i = lN (nmH (fR S).2.2.1 t (fR S).1)) (b1 : LKok (some (fR S).1) t) (b2 : ∀ k, k < (fR S).1 → t k ≤ 60) (hokt : ∀ k, k < (fR S).1 → okT (fR S).2.2.1 (t k)) :
    ∃ r h2 h3, f_X6_row_21 0 (nI i) 14 (MM n x1 w I1 L1 Q D) = some r ∧ sL r.2 80 0 r.1.toInt64 = some h2 ∧ (oK h2 64 7 = true ∧ f_X7_row h2 64 (nI i) = some (r.1, h3)) ∧ (oK h3 64 7 = true ∧ f_X7_thrown h3 64 = some 0) ∧ aL h3 80 0 = some r.1.toInt64 ∧ INVp PCc h3 := by
  have hlen := FL_len hB hw
  have hi56 : i < 2656 := Nat.lt_of_lt_of_le hi hlen
  obtain ⟨I2, c1, c2, c3, c4⟩ := c_tell_l (n := n) (x := x1) (w := w) (I := I1) (L := L1) (Q := Q) (D := D) (c := (fR S).1) hw.2.2.2.1 hokt hw.1 e3.2.2.2.1 (fR S).1 4096 I1 (Nat.le_refl _) (Nat.lt_of_le_of_lt hw.1 (by decide)) rfl
  obtain ⟨I3, d1, d2, d3⟩ := c_take (n := n) (x := x1) (w := w) (I := I2) (L := L1) (Q := Q) (D := D) (t := t) hw.1 b2 c2
  have hc3 : CI PCc n (s2 x1 60 2 (nI (fR S).1)) I3 L1 Q D (lookS S (fR S).1 t) := by
    have h1 : CI PCc n x1 I2 L1 Q D S := e2.cong (fun _ _ => rfl) (fun a ha => c4 a (by omega)) (pcc_ok.2 _ I1 L1 _ I2 L1 _ rfl (fun a k1 k2 => c4 a (by omega)) rfl rfl e2.2.2.2.2.2.2.2.2)
    exact h1.look pcc_ok b1 d2 (fun a ha => s2_row ha) d3
  have hnumAt : f_X4_numberAt (MM n (s2 x1 60 2 (nI (fR S).1)) w I3 L1 Q D) 60 1 = some (if (fR S).1 = 0 then NO else nI (t 0)) := by
    have := c_numberAt (n := n) (w := w) (L := L1) (Q := Q) (D := D) (j := 1) b1 d2 (by decide)
    refine Eq.trans this ?_
    congr 1
    by_cases z : (fR S).1 = 0
    · rw [if_neg (show ¬ (1 ≤ 1 ∧ 1 ≤ lK (some (fR S).1)) from (show ¬ (1 ≤ 1 ∧ 1 ≤ (fR S).1) by omega)), if_pos z]
    · rw [if_pos (show 1 ≤ 1 ∧ 1 ≤ lK (some (fR S).1) from (show 1 ≤ 1 ∧ 1 ≤ (fR S).1 by omega)), if_neg z]
  obtain ⟨R, hR⟩ : ∃ R, R = if (fR S).1 = 0 then NO else nI (t 0) := ⟨_, rfl⟩
  have hrow : f_X6_row_21 0 (nI i) 14 (MM n x1 w I1 L1 Q D) = some (R, MM n (s2 x1 60 2 (nI (fR S).1)) w I3 L1 Q D) := by
    have htell : f_X1_tell (MM n x1 w I1 L1 Q D) 14 (nI i) 63 = some (MM n x1 w I2 L1 Q D) := by
      unfold f_X1_tell
      rw [o_14, if_pos rfl, hhas, ob_s, if_neg z10, g_14_6, ob_s, n_63, ob_s, e3.1, if_pos (show nI (fR S).1 < 19 from nI_lt (b := 19) (Nat.lt_succ_of_le hw.1) (by decide)), r_14_0, ob_s, l_at (len := 2656) rfl hi56 (by decide), ob_s, ob_s, hnum]
      exact c1
    have hx2 : x1 6 0 = nI (fR S).1 := hx1.1
    unfold f_X6_row_21
    rw [r_0_13, ob_s, o_14, if_pos rfl, htell, ob_s, r_0_12, ob_s, r_0_13, ob_s, r_0_4, ob_s, g_6_0, ob_s, hx2, o_60, if_pos rfl, d1, ob_s, r_0_12, ob_s, o_60, if_pos rfl, hnumAt, ob_s, hR]
  have hm3 : MI (s2 x1 60 2 (nI (fR S).1)) I3 S := hm1.same (fun a k1 k2 => ⟨s2_row (by omega), by rw [d3 a (by omega) (by omega), c4 a (by omega)]⟩)
  have hset : sL (MM n (s2 x1 60 2 (nI (fR S).1)) w I3 L1 Q D) 80 0 R.toInt64 = some (MM n (s2 x1 60 2 (nI (fR S).1)) w I3 (u1 L1 80 (vp_updL (L1 80) 0 R.toInt64)) Q D) := l_set (a := 80) (len := 1) (j := 0) rfl (by decide) (by decide)
  obtain ⟨x4, I4, f1, f2, f3, f4⟩ := m_row_yes (n := n) (w := w) (L := u1 L1 80 (vp_updL (L1 80) 0 R.toInt64)) (Q := Q) (D := D) hB e2.2.2.2.2.1.1 hm3 hi ht
  rw [← hR] at f1
  refine ⟨(R, MM n (s2 x1 60 2 (nI (fR S).1)) w I3 L1 Q D), _, _, hrow, hset, ⟨o_64, f1⟩, ⟨o_64, ?_⟩, ?_, n, x4, w, I4, u1 L1 80 (vp_updL (L1 80) 0 R.toInt64), Q, D, lookS S (fR S).1 t, rfl, CI.same pcc_ok.sc f3 ?_, f2⟩
  · unfold f_X7_thrown
    rw [g_64_0, ob_s, f4]
  · have := l_at (n := n) (x := x4) (w := w) (I := I4) (L := u1 L1 80 (vp_updL (L1 80) 0 R.toInt64)) (Q := Q) (D := D) (a := 80) (len := 1) (j := 0) rfl (by decide) (by decide)
    rw [u1_e, pk_uLs] at this
    exact this
  · exact hc3.cong (fun _ _ => rfl) (fun _ _ => rfl) (pcc_ok.2 _ I3 L1 _ I3 _ _ rfl (fun _ _ _ => rfl) (u1_n (by decide)) (u1_n (by decide)) hc3.2.2.2.2.2.2.2.2)
theorem s_row (hB : BND) : S_row (INVp PCc) := by
  intro h hI a
  obtain ⟨n, x, w, I, L, Q, D, S, rfl, hc, hm⟩ := hI
  have hw : WF (fR S).1 (fR S).2.1 (fR S).2.2.1 (fR S).2.2.2 := hc.2.2.2.2.1.1
  obtain ⟨x1, I1, L1, e1, e2, e3, e4, e5, e6, e7⟩ := c_counted (w := w) hB hc
  have hx1 : FrC x1 I1 6 (fR S).1 (fR S).2.1 (fR S).2.2.1 (fR S).2.2.2 := e2.2.2.2.2.1.2
  have hm1 : MI x1 I1 S := hm.same e4
  have hlen := FL_len hB hw
  have hl31 : (FL (fR S).1 (fR S).2.1 (fR S).2.2.1 (fR S).2.2.2).length < 2 ^ 31 := Nat.lt_of_le_of_lt hlen (by decide)
  by_cases hr : ∃ i, i < (FL (fR S).1 (fR S).2.1 (fR S).2.2.1 (fR S).2.2.2).length ∧ a = nI i
  · obtain ⟨i, hi, rfl⟩ := hr
    have hi31 : i < 2 ^ 31 := Nat.lt_trans hi hl31
    have hi56 : i < 2656 := Nat.lt_of_lt_of_le hi hlen
    have hhas : f_X1_hasRank (MM n x1 w I1 L1 Q D) 14 (nI i) = some 1 := by
      unfold f_X1_hasRank
      rw [if_neg (nI_pos hi31), g_14_7, ob_s, e3.2.1, if_neg (nI_ge hi hl31), r_14_0, ob_s, n_35, ob_s, if_neg (show ¬ (2656 : Int32) ≤ nI i from nI_ge (b := 2656) hi56 (by decide))]
    refine ⟨(14, MM n x1 w I1 L1 Q D), 1, o_0, e1, o_14, hhas, fun _ => ?_, fun z => absurd z (by decide)⟩
    obtain ⟨t, ht⟩ : ∃ t, t = rowL ((FL (fR S).1 (fR S).2.1 (fR S).2.2.1 (fR S).2.2.2).getD i []) := ⟨_, rfl⟩
    obtain ⟨hnum, b1, b2, hokt⟩ := row_pre hw hi ht (num_of e3 hi hi56)
    exact row_fin hB hw hm1 e2 e3 hx1 hi ht hhas hnum b1 b2 hokt
  · have hno : ∀ i, i < (FL (fR S).1 (fR S).2.1 (fR S).2.2.1 (fR S).2.2.2).length → a ≠ nI i := fun i hi e => hr ⟨i, hi, e⟩
    have hhas : f_X1_hasRank (MM n x1 w I1 L1 Q D) 14 a = some 0 := by
      unfold f_X1_hasRank
      by_cases z : a < 0
      · rw [if_pos z]
      · obtain ⟨j, hj, rfl⟩ := nI_of z
        rw [if_neg z, g_14_7, ob_s, e3.2.1, if_pos (nI_le (Nat.le_of_not_lt fun y => hno j y rfl) hj)]
    refine ⟨(14, MM n x1 w I1 L1 Q D), 0, o_0, e1, o_14, hhas, fun z => absurd z00 z, fun _ m hmn => ?_⟩
    have hmn : n ≤ m := hmn
    obtain ⟨x2, I2, d1, d2, d3, d4⟩ := m_row_no (n := m) (w := w) (L := L1) (Q := Q) (D := D) hB hc.2.2.2.2.1.1 hm1 hno
    refine ⟨0, MM m x2 w I2 L1 Q D, ⟨o_64, d1⟩, ⟨o_64, ?_⟩, m, x2, w, I2, L1, Q, D, S, rfl, CI.same pcc_ok.sc d3 (e2.room hmn), d2⟩
    unfold f_X7_thrown
    rw [g_64_0, ob_s, d4]
