/-! ways, standing, may, sure -/
def PCc : PCt := fun x I L F => x 14 5 = 0 ∨ (x 14 5 = 1 ∧ CNT 14 2656 x I L F.1 F.2.1 F.2.2.1 F.2.2.2)
theorem pcc_ok : PCok PCc := by
  refine ⟨fun x I L F h => Or.inl h, fun x I L x' I' L' F h1 h2 h3 h4 k => ?_⟩
  unfold PCc CNT at *
  rw [h1, show 14 + 21 = 35 from rfl, h3, show 14 + 2 = 16 from rfl, show 14 + 3 = 17 from rfl, h2 16 (by decide) (by decide), h2 17 (by decide) (by decide)]
  rcases k with k | ⟨k0, k1, k2, k3, k4, k5, k6⟩
  · exact Or.inl k
  · exact Or.inr ⟨k0, k1, k2, k3, k4, fun i q hi hq => by rw [h2 _ (by omega) (by omega)]; exact k5 i q hi hq, k6⟩
theorem CI.cong {PC PC' : PCt} {n : Nat} {x I x' I' : Nat → Nat → Int32} {L L' : Nat → Nat → Int64} {Q : Nat → Nat → Option Nat} {D : Nat → Bool} {S : St} (g : ∀ a, a = 0 ∨ a = 6 ∨ a = 10 ∨ a = 60 ∨ 81 ≤ a → x' a = x a) (g2 : ∀ a, a = 1 ∨ a = 7 ∨ a = 61 ∨ a = 62 ∨ 81 ≤ a → I' a = I a) (hp : PC' x' I' L' (fR S)) (k : CI PC n x I L Q D S) : CI PC' n x' I' L' Q D S := by
  obtain ⟨k1, k2, k3, k4, k5, k6, k7, k8, k9⟩ := k
  refine ⟨k1, k2, ?_, ?_, ?_, ?_, ?_, ?_, hp⟩
  · rw [g 0 (by omega), g2 1 (by omega)]; exact k3
  · rw [g 0 (by omega)]; exact k4
  · exact ⟨k5.1, k5.2.same (g 6 (by omega)) (g2 7 (by omega))⟩
  · rw [g 10 (by omega)]
    obtain ⟨e1, e2, t, e3, e4, e5⟩ := k6
    refine ⟨e1, e2, t, e3, e4, fun k hk => ?_⟩
    obtain ⟨e6, a, e7, e8⟩ := e5 k hk
    have := k2.ring (Nat.mod_lt _ (by decide)) e7
    exact ⟨e6, a, e7, e8.same (g a (by have := this.1; omega)) (g2 _ (by have := this.1; omega))⟩
  · intro k hk
    have e := k7 k hk
    cases hi : iM S k with
    | none => rw [hi] at e; exact e
    | some G =>
      rw [hi] at e
      obtain ⟨e6, a, e7, e8⟩ := e
      have := k2.img hk e7
      exact ⟨e6, a, e7, e8.same (g a (by have := this.1; omega)) (g2 _ (by have := this.1; omega))⟩
  · refine ⟨k8.1, ?_⟩
    unfold LKC at *
    rw [g 60 (by omega), g2 61 (by omega), g2 62 (by omega)]
    exact k8.2
theorem MI.cong {x I x' I' : Nat → Nat → Int32} {S : St} (h2 : x' 64 2 = x 64 2) (h8 : x' 64 8 = x 64 8) (h19 : x' 64 19 = x 64 19) (h28 : x' 64 28 = x 64 28) (hI : ∀ a, a = 65 ∨ a = 66 ∨ a = 68 ∨ a = 69 ∨ a = 73 ∨ a = 78 → I' a = I a) (k : MI x I S) : MI x' I' S := by
  unfold MI FrO LKM at *
  rw [h2, h8, h19, h28, hI 65 (by omega), hI 66 (by omega), hI 69 (by omega), hI 73 (by omega), hI 68 (by omega), hI 78 (by omega)]
  exact k
theorem Fi14 : Fi 14 2656 := Or.inl ⟨rfl, rfl⟩
theorem Fi38 : Fi 38 0 := Or.inr ⟨rfl, rfl⟩
section WAYS
variable {n : Nat} {x : Nat → Nat → Int32} {w : Int64} {I : Nat → Nat → Int32} {L : Nat → Nat → Int64} {Q : Nat → Nat → Option Nat} {D : Nat → Bool} {S : St}
theorem c_counted (hB : BND) (hc : CI PCc n x I L Q D S) : ∃ x' I' L', f_X6_counted (MM n x w I L Q D) 0 = some (14, MM n x' w I' L' Q D) ∧ CI PCc n x' I' L' Q D S ∧ CNT 14 2656 x' I' L' (fR S).1 (fR S).2.1 (fR S).2.2.1 (fR S).2.2.2 ∧ SM x I x' I' ∧ (∀ e, e ≠ 14 → x' e = x e) ∧ (∀ e, ¬ (16 ≤ e ∧ e ≤ 34) → I' e = I e) ∧ ∀ e, e ≠ 35 → e ≠ 15 → L' e = L e := by
  have hx : FrC x I 6 (fR S).1 (fR S).2.1 (fR S).2.2.1 (fR S).2.2.2 := hc.2.2.2.2.1.2
  have hw : WF (fR S).1 (fR S).2.1 (fR S).2.2.1 (fR S).2.2.2 := hc.2.2.2.2.1.1
  have hp := hc.2.2.2.2.2.2.2.2
  unfold f_X6_counted
  rw [r_0_9, ob_s, g_14_5, ob_s]
  rcases hp with h0 | ⟨h0, h1⟩
  · obtain ⟨x', I', L', e1, e2, e3, e4, e5, e6⟩ := c_countAll (n := n) (w := w) (Q := Q) (D := D) (L := L) hB Fi14 isF6 (by omega) hw hx (by omega)
    have ex : ∀ e, e ≠ 14 → x' e = x e := fun e he => funext fun k => e4 e k (fun z => he z.1)
    refine ⟨x', I', L', ?_, hc.cong (fun a ha => ex a (by omega)) (fun a ha => e5 a (by omega)) (Or.inr ⟨e2, e3⟩), e3, SM.of (fun a h1 h2 => ex a (by omega)) (fun a h1 h2 => e5 a (by omega)), ex, fun e he => e5 e (by omega), fun e k1 k2 => e6 e k1 k2⟩
    rw [h0, if_pos rfl, ob_s, r_0_4, ob_s, o_14, if_pos rfl, e1, ob_s, r_0_9, ob_s]
  · refine ⟨x, I, L, ?_, hc, h1, SM.rf, fun _ _ => rfl, fun _ _ => rfl, fun _ _ _ => rfl⟩
    rw [h0, if_neg (by decide), ob_s]
end WAYS
/-! what the model finds, in one place -/
theorem FL_VE {c ho pa : Nat} {f : Nat → Nat} {e : List (Nat × Nat)} (h : e ∈ FL c ho pa f) : VE (plM c ho) pa e := by
  unfold FL at h
  split at h
  · exact enuP_VE _ _ _ _ _ h
  · cases h
theorem VE.bnd {c fr un : Nat} {e : List (Nat × Nat)} (h : VE fr un e) (hc : fr < 2 ^ c) {p : Nat × Nat} (hp : p ∈ e) : p.1 + p.2 + 1 < c := by
  by_cases z : p.1 + p.2 + 1 < c
  · exact z
  · have := (h.mem p hp).2.1
    rw [Nat.testBit_lt_two_pow (Nat.lt_of_lt_of_le hc (Nat.pow_le_pow_right (by decide) (by omega)))] at this
    cases this
theorem stC_count {c fr un i k : Nat} {e : List (Nat × Nat)} (h : VE fr un e) (hc : fr < 2 ^ c) (hk : k < 20) : stC c (rowL e) (20 * (i + 1) + k) = e.count (k, i) := by
  have h1 : (20 * (i + 1) + k) % 20 = k := by omega
  have h2 : (20 * (i + 1) + k) / 20 = i + 1 := by omega
  unfold stC
  rw [h1, h2, h.count]
  by_cases z : (k, i) ∈ e
  · have a := h.at _ z
    have a1 : rowL e k = i + 1 := a.1
    have a2 : rowL e (k + i + 1) = i + 1 := a.2
    have b := h.bnd hc z
    have b : k + i + 1 < c := b
    rw [if_pos z, a1, if_pos ⟨by omega, by omega, by rw [show k + (i + 1) = k + i + 1 by omega]; exact a2, rfl⟩]
  · rw [if_neg z, if_neg]
    rintro ⟨a1, a2, a3, a4⟩
    exact z (h.stand.mp ⟨a4.symm, by rw [← a4, show k + (i + 1) = k + i + 1 by omega] at a3; exact a3⟩)
theorem stN_cf {c fr un i k : Nat} (hc : fr < 2 ^ c) (hk : k < 20) : ∀ (E : List (List (Nat × Nat))), (∀ e ∈ E, VE fr un e) → stN c (E.map rowL) (20 * (i + 1) + k) = cf (k, i) E
  | [], _ => rfl
  | e :: E, h => by rw [List.map_cons, stN, cf, stC_count (h e (List.mem_cons_self ..)) hc hk, stN_cf hc hk E (fun a ha => h a (List.mem_cons_of_mem _ ha))]
section MALN
variable {n : Nat} {w : Int64} {L : Nat → Nat → Int64} {Q : Nat → Nat → Option Nat} {D : Nat → Bool} {a c ho pa : Nat} {f : Nat → Nat}
theorem m_allN {x I : Nat → Nat → Int32} {W : Int32} (ha : aM a) (hF : FrM0 I a c ho pa f) (hw : WF c ho pa f) : ∃ x' I', f_X7_all (MM n x w I L Q D) 64 a W = some (nI (FL c ho pa f).length, MM n x' w I' L Q D) ∧ (∀ e j, ¬ (e = 64 ∧ 24 ≤ j ∧ j ≤ 26) → x' e j = x e j) ∧ x' 64 26 = rkL c (I 76) 0 ((FL c ho pa f).map rowL) NO ∧ (∀ e, e ≠ 74 → e ≠ 75 → e ≠ 77 → I' e = I e) ∧ (∀ i k, i < 15 → k < 18 → I' 77 (20 * (i + 1) + k) = nI (cf (k, i) (FL c ho pa f))) ∧
    ∀ r j (h : r < (FL c ho pa f).length), (FL c ho pa f).length < 2 ^ 30 → W = nI r → j < c → I' 75 j = nI (rowL ((FL c ho pa f)[r]) j) := by
  obtain ⟨I0, h0, h1⟩ := m_all (n := n) (w := w) (L := L) (Q := Q) (D := D) (x := x) (W := W) ha hF hw
  have hrow : ∀ e, e ≠ 74 → e ≠ 77 → I0 e = I e := fun e e1 e2 => funext fun j => by rw [h0, if_neg (fun z => e1 z.1), if_neg (fun z => e2 z.1)]
  have h24 : (s2 (s2 (s2 x 64 24 0) 64 25 W) 64 26 NO) 64 24 = nI 0 := by
    rw [s2_at, if_neg (by decide), s2_at, if_neg (by decide), s2_e]; rfl
  refine ⟨_, _, h1, fun e j he => ?_, ?_, fun e e1 e2 e3 => ?_, fun i k hi hk => ?_, fun r j hr hlen hW hj => ?_⟩
  · rw [fld_1 (fun z => he (by omega))]
    show s2 (s2 (s2 x 64 24 0) 64 25 W) 64 26 NO e j = _
    rw [s2_at, if_neg (fun z => he (by omega)), s2_at, if_neg (fun z => he (by omega)), s2_at, if_neg (fun z => he (by omega))]
  · rw [fld_26 _ _ 0 h24]
    show rkL c (I0 76) 0 _ ((s2 (s2 (s2 x 64 24 0) 64 25 W) 64 26 NO) 64 26) = _
    rw [s2_e, hrow 76 (by decide) (by decide)]
  · rw [u1_n e1, fld_n e2 e3]
    exact hrow e e1 e3
  · rw [u1_n (by decide), fld_77 hw.1]
    show I0 77 _ + _ = _
    rw [h0, if_neg (by omega), if_pos ⟨rfl, by omega⟩, Int32.zero_add, stN_cf (plM_lt hw.2.1) (by omega) _ (fun e he => FL_VE he)]
  · have e25 : (s2 (s2 (s2 x 64 24 0) 64 25 W) 64 26 NO) 64 25 = nI r := by
      rw [s2_at, if_neg (by decide), s2_e, hW]
    have := (fld_75 (r := r) hj (by omega) ((FL c ho pa f).map rowL) (s2 (s2 (s2 x 64 24 0) 64 25 W) 64 26 NO, I0) 0 h24 e25 (by rw [List.length_map]; omega)).2 r (by rw [List.length_map]; exact hr) (by omega)
    rw [u1_n (by decide), this, List.getElem_map]
end MALN
theorem FL_len (hB : BND) {c ho pa : Nat} {f : Nat → Nat} (hw : WF c ho pa f) : (FL c ho pa f).length ≤ 2656 := by
  by_cases h : evF c ho pa = true
  · rw [FL_map hw h, List.length_map]; exact hB c ho pa f hw h
  · unfold FL; rw [if_neg h]; exact Nat.zero_le _
theorem cf_le {p : Nat × Nat} : ∀ (E : List (List (Nat × Nat))), (∀ e ∈ E, e.count p ≤ 1) → cf p E ≤ E.length
  | [], _ => Nat.le_refl _
  | e :: E, h => by
    rw [cf, List.length_cons]
    have := h e (List.mem_cons_self ..)
    have := cf_le E (fun a ha => h a (List.mem_cons_of_mem _ ha))
    omega
theorem FL_cf (hB : BND) {c ho pa : Nat} {f : Nat → Nat} (hw : WF c ho pa f) (p : Nat × Nat) : cf p (FL c ho pa f) ≤ 2656 := Nat.le_trans (cf_le _ (fun e he => by rw [(FL_VE he).count]; split <;> omega)) (FL_len hB hw)
theorem SC.all {x I x' I' : Nat → Nat → Int32} (h1 : ∀ e j, ¬ (e = 64 ∧ 24 ≤ j ∧ j ≤ 26) → x' e j = x e j) (h2 : ∀ e, e ≠ 74 → e ≠ 75 → e ≠ 77 → I' e = I e) : SC x I x' I' := fun a ha => ⟨funext fun j => h1 a j (by omega), h2 a (by omega) (by omega) (by omega)⟩
theorem MI.all {x I x' I' : Nat → Nat → Int32} {S : St} (h1 : ∀ e j, ¬ (e = 64 ∧ 24 ≤ j ∧ j ≤ 26) → x' e j = x e j) (h2 : ∀ e, e ≠ 74 → e ≠ 75 → e ≠ 77 → I' e = I e) (k : MI x I S) : MI x' I' S := k.cong (h1 _ _ (by omega)) (h1 _ _ (by omega)) (h1 _ _ (by omega)) (h1 _ _ (by omega)) (fun a ha => h2 a (by omega) (by omega) (by omega))
theorem s_ways (hB : BND) : S_ways (INVp PCc) := by
  intro h hI
  refine both (fC := fun h => f_X6_ways h 0) (fM := fun h => f_X7_ways h 64) pcc_ok.sc (fun S => nI (FL (fR S).1 (fR S).2.1 (fR S).2.2.1 (fR S).2.2.2).length) (fun S => S) (fun n x w I L Q D S hc => ?_) (fun n x w I L Q D S hb hm => ?_) hI
  · obtain ⟨x', I', L', e1, e2, e3, e4, -⟩ := c_counted (w := w) hB hc
    refine ⟨n, x', I', L', Q, D, ?_, e2, e4⟩
    unfold f_X6_ways
    rw [o_0, if_pos rfl, e1, ob_s]
    show (gI (MM n x' w I' L' Q D) 14 1 7).bind _ = _
    rw [g_14_7, ob_s, e3.2.1]
  · obtain ⟨x', I', e1, e2, e3, e4, -⟩ := m_allN (n := n) (w := w) (L := L) (Q := Q) (D := D) (x := s2 x 64 0 0) (a := 66) (W := NO) (Or.inl rfl) (hm.thrown (v := 0)).2.2.1.m0 hb.1
    refine ⟨x', w, I', ?_, (hm.thrown (v := 0)).all e2 e4, SC.s2x.tr (SC.all e2 e4)⟩
    unfold f_X7_ways
    rw [p_64_0, ob_s, r_64_11, ob_s, o_64, if_pos rfl, liN, e1, ob_s]
section OUTS
variable {n : Nat} {x : Nat → Nat → Int32} {w : Int64} {I : Nat → Nat → Int32} {L : Nat → Nat → Int64} {Q : Nat → Nat → Option Nat} {D : Nat → Bool} {a c ho pa : Nat} {f : Nat → Nat} {v : Int32}
theorem hp_out (hv : ∀ i, i < 15 → v ≠ nI (i + 1)) (hF : isF D a) (hx : FrC x I a c ho pa f) : f_X2_hasPair (MM n x w I L Q D) a v = some 0 := by
  rcases neg_or v with hq | ⟨j, hj, rfl⟩
  · exact c_hasPairN hq
  · rw [c_hasPair hF hx hj, if_neg]
    rintro ⟨h1, h2, h3⟩
    exact hv (j - 1) (by omega) (by rw [show j - 1 + 1 = j by omega])
theorem told_out (hv : ∀ i, i < 15 → v ≠ nI (i + 1)) (hs : shp[a]? = some (0, 19)) (hx : FrM0 I a c ho pa f) (hp : pa < 2 ^ 15) : f_X7_isTold (MM n x w I L Q D) a v = some 0 := by
  rcases neg_or v with hq | ⟨j, hj, rfl⟩
  · exact m_isToldN hq
  · rw [m_isTold hs hx hp hj]
    have : bI (decide (1 ≤ j ∧ j ≤ 15 ∧ pa.testBit (j - 1) = true)) = 0 := by
      rw [bI_0]
      refine decide_eq_false ?_
      rintro ⟨h1, h2, h3⟩
      exact hv (j - 1) (by omega) (by rw [show j - 1 + 1 = j by omega])
    rw [this]
theorem pl_out (hv : ∀ i, i < 18 → v ≠ nI (i + 1)) (hF : isF D a) (hx : x a 0 = nI c) (hc : c ≤ 18) : f_X2_hasPlace (MM n x w I L Q D) a v = some 0 := by
  rcases neg_or v with hq | ⟨j, hj, rfl⟩
  · exact c_hasPlaceN hq
  · rw [c_hasPlace hF hx hc hj, if_neg]
    rintro ⟨h1, h2⟩
    exact hv (j - 1) (by omega) (by rw [show j - 1 + 1 = j by omega])
theorem in_out {h : Hp} (hv : ∀ i, i < 18 → v ≠ nI (i + 1)) (hc : c ≤ 18) : f_X7_isIn h v (nI 1) (nI c) = some 0 := by
  rcases neg_or v with hq | ⟨j, hj, rfl⟩
  · exact m_isInN hq (by decide)
  · rw [m_isIn hj (by decide) (by omega)]
    have : bI (decide (1 ≤ j ∧ j ≤ c)) = 0 := by
      rw [bI_0]
      refine decide_eq_false ?_
      rintro ⟨h1, h2⟩
      exact hv (j - 1) (by omega) (by rw [show j - 1 + 1 = j by omega])
    rw [this]
end OUTS
theorem s_standing (hB : BND) : S_standing (INVp PCc) := by
  intro h hI a1 a2
  by_cases hd : ∃ i q, i < 15 ∧ q < 18 ∧ a1 = nI (i + 1) ∧ a2 = nI (q + 1)
  · obtain ⟨i, q, hi, hq, rfl, rfl⟩ := hd
    refine both (fC := fun h => f_X6_standing h 0 (nI (i + 1)) (nI (q + 1))) (fM := fun h => f_X7_standing h 64 (nI (i + 1)) (nI (q + 1))) pcc_ok.sc (fun S => if (fR S).2.2.1.testBit i = true ∧ q < (fR S).1 then nI (cf (q, i) (FL (fR S).1 (fR S).2.1 (fR S).2.2.1 (fR S).2.2.2)) else NO) (fun S => S) (fun n x w I L Q D S hc => ?_) (fun n x w I L Q D S hb hm => ?_) hI
    · have hx : FrC x I 6 (fR S).1 (fR S).2.1 (fR S).2.2.1 (fR S).2.2.2 := hc.2.2.2.2.1.2
      have hw : WF (fR S).1 (fR S).2.1 (fR S).2.2.1 (fR S).2.2.2 := hc.2.2.2.2.1.1
      have hstart : f_X6_standing (MM n x w I L Q D) 0 (nI (i + 1)) (nI (q + 1)) = if (fR S).2.2.1.testBit i = true ∧ q < (fR S).1 then ((f_X6_counted (MM n x w I L Q D) 0).bind fun x5 => (gR x5.2 x5.1 1 4).bind fun x6 => (aR x5.2 5 x6 (nI (i + 1))).bind fun x7 => (aI x5.2 0 x7 (nI (q + 1))).bind fun x8 => some ((x8, x5.2))) else some (NO, MM n x w I L Q D) := by
        unfold f_X6_standing
        rw [r_0_4, ob_s, o_6, if_pos rfl, liN]
        by_cases h1 : (fR S).2.2.1.testBit i = true
        · rw [c_hp1 isF6 hx hi h1, ob_s, if_neg z10, ob_s, o_6, if_pos rfl]
          by_cases h2 : q < (fR S).1
          · rw [c_pl1 isF6 hx hw.1 h2, ob_s, if_neg z10, o_0, if_pos rfl, if_pos ⟨h1, h2⟩]
          · rw [c_pl0 isF6 hx hw.1 hq h2, ob_s, if_pos z00, if_neg (fun z => h2 z.2)]
        · rw [c_hp0 isF6 hx hi h1, ob_s, if_pos z00, if_neg (fun z => h1 z.1)]
      rw [hstart]
      by_cases h1 : (fR S).2.2.1.testBit i = true ∧ q < (fR S).1
      · obtain ⟨x', I', L', e1, e2, e3, e4, -⟩ := c_counted (w := w) hB hc
        refine ⟨n, x', I', L', Q, D, ?_, e2, e4⟩
        rw [if_pos h1, if_pos h1, e1, ob_s]
        show (gR (MM n x' w I' L' Q D) 14 1 4).bind _ = _
        rw [Fi_r4 Fi14, ob_s, Fi_R Fi14 (by omega), ob_s, a_at (Fi_s6 Fi14 (by omega)) (Or.inl rfl) (by omega) (by decide), ob_s, show 14 + 5 + (i + 1) = 14 + 6 + i by omega, e3.2.2.2.2.1 i q hi hq]
      · rw [if_neg h1, if_neg h1]
        exact ⟨n, x, I, L, Q, D, rfl, hc, SM.rf⟩
    · have hw := hb.1
      have hs : shp[66]? = some (0, 19) := rfl
      have hF := (hm.thrown (v := 0)).2.2.1.m0
      unfold f_X7_standing
      have hstart : f_X7_standing (MM n x w I L Q D) 64 (nI (i + 1)) (nI (q + 1)) = if (fR S).2.2.1.testBit i = true ∧ q < (fR S).1 then ((f_X7_all (MM n (s2 x 64 0 0) w I L Q D) 64 66 NO).bind fun x8 => (gR x8.2 64 7 23).bind fun x9 => (aI x8.2 0 x9 ((((20 : Int32) * nI (i + 1)) + nI (q + 1)) - (1 : Int32))).bind fun x10 => some ((x10, x8.2))) else some (NO, MM n (s2 x 64 0 0) w I L Q D) := by
        unfold f_X7_standing
        rw [p_64_0, ob_s, r_64_11, ob_s, m_isTold hs hF hw.2.2.1 (by omega), ob_s, liN]
        by_cases h1 : (fR S).2.2.1.testBit i = true
        · rw [if_neg (by rw [bI_0, Nat.add_sub_cancel]; simp [h1]; omega), ob_s, li0, m_at hs (by decide), ob_s, hF.1]
          rw [li1, m_isIn (by omega) (by omega) (by have := hw.1; omega), ob_s]
          by_cases h2 : q < (fR S).1
          · rw [if_neg (by show ¬ bI _ = 0; rw [bI_0]; simp; omega), ob_s, o_64, if_pos rfl, if_pos ⟨h1, h2⟩]
          · rw [if_pos (by show bI _ = 0; rw [bI_0]; simp; omega), if_neg (fun z => h2 z.2)]
        · rw [if_pos (by rw [bI_0, Nat.add_sub_cancel]; simp [h1]), if_neg (fun z => h1 z.1)]
      show ∃ x' w' I', f_X7_standing (MM n x w I L Q D) 64 (nI (i + 1)) (nI (q + 1)) = _ ∧ _
      rw [hstart]
      by_cases h1 : (fR S).2.2.1.testBit i = true ∧ q < (fR S).1
      · obtain ⟨x', I', e1, e2, e3, e4, e5, -⟩ := m_allN (n := n) (w := w) (L := L) (Q := Q) (D := D) (x := s2 x 64 0 0) (a := 66) (W := NO) (Or.inl rfl) hF hb.1
        refine ⟨x', w, I', ?_, (hm.thrown (v := 0)).all e2 e4, SC.s2x.tr (SC.all e2 e4)⟩
        rw [if_pos h1, if_pos h1, e1, ob_s]
        show (gR (MM n x' w I' L Q D) 64 7 23).bind _ = _
        rw [r_64_23, ob_s, li20, pk_mul, nI_add, li1, pk_sub (by omega), show 20 * (i + 1) + (q + 1) - 1 = 20 * (i + 1) + q by omega, a_at (len := 320) rfl (Or.inl rfl) (by omega) (by decide), ob_s, e5 i q hi hq]
      · refine ⟨s2 x 64 0 0, w, I, ?_, hm.thrown, SC.s2x⟩
        rw [if_neg h1, if_neg h1]
  · have hno : (∀ i, i < 15 → a1 ≠ nI (i + 1)) ∨ (∀ q, q < 18 → a2 ≠ nI (q + 1)) := by
      by_cases z : ∃ i, i < 15 ∧ a1 = nI (i + 1)
      · obtain ⟨i, z1, z2⟩ := z
        exact Or.inr fun q hq e => hd ⟨i, q, z1, hq, z2, e⟩
      · exact Or.inl fun i hi e => z ⟨i, hi, e⟩
    refine both (fC := fun h => f_X6_standing h 0 a1 a2) (fM := fun h => f_X7_standing h 64 a1 a2) pcc_ok.sc (fun S => NO) (fun S => S) (fun n x w I L Q D S hc => ⟨n, x, I, L, Q, D, ?_, hc, SM.rf⟩) (fun n x w I L Q D S hb hm => ⟨s2 x 64 0 0, w, I, ?_, hm.thrown, SC.s2x⟩) hI
    · have hx : FrC x I 6 (fR S).1 (fR S).2.1 (fR S).2.2.1 (fR S).2.2.2 := hc.2.2.2.2.1.2
      have hw : WF (fR S).1 (fR S).2.1 (fR S).2.2.1 (fR S).2.2.2 := hc.2.2.2.2.1.1
      show f_X6_standing (MM n x w I L Q D) 0 a1 a2 = _
      unfold f_X6_standing
      rw [r_0_4, ob_s, o_6, if_pos rfl, liN]
      by_cases z : ∀ i, i < 15 → a1 ≠ nI (i + 1)
      · rw [hp_out z isF6 hx, ob_s, if_pos rfl]
      · have z2 := hno.resolve_left z
        have z3 : ∃ i, i < 15 ∧ a1 = nI (i + 1) := Classical.byContradiction fun y => z fun i hi e => y ⟨i, hi, e⟩
        obtain ⟨i, hi, rfl⟩ := z3
        by_cases h1 : (fR S).2.2.1.testBit i = true
        · rw [c_hp1 isF6 hx hi h1, ob_s, if_neg z10, ob_s, o_6, if_pos rfl, pl_out z2 isF6 hx.1 hw.1, ob_s, if_pos z00]
        · rw [c_hp0 isF6 hx hi h1, ob_s, if_pos z00]
    · have hw := hb.1
      have hs : shp[66]? = some (0, 19) := rfl
      have hF := (hm.thrown (v := 0)).2.2.1.m0
      show f_X7_standing (MM n x w I L Q D) 64 a1 a2 = _
      unfold f_X7_standing
      rw [p_64_0, ob_s, r_64_11, ob_s, liN]
      by_cases z : ∀ i, i < 15 → a1 ≠ nI (i + 1)
      · rw [told_out z hs hF hw.2.2.1, ob_s, if_pos rfl]
      · have z2 := hno.resolve_left z
        have z3 : ∃ i, i < 15 ∧ a1 = nI (i + 1) := Classical.byContradiction fun y => z fun i hi e => y ⟨i, hi, e⟩
        obtain ⟨i, hi, rfl⟩ := z3
        rw [m_isTold hs hF hw.2.2.1 (by omega), ob_s]
        split
        · rfl
        · rw [ob_s, show aI (MM n (s2 x 64 0 0) w I L Q D) 0 66 0 = some (I 66 0) from m_at (j := 0) hs (by decide), ob_s, hF.1, show f_X7_isIn (MM n (s2 x 64 0 0) w I L Q D) a2 1 (nI (fR S).1) = some 0 from in_out z2 hw.1, ob_s, if_pos rfl]
