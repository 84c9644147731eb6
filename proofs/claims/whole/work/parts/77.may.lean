/-! may, sure, extended -/
def mkB (g : Nat → Nat) : Nat → Nat
  | 0 => 0
  | k + 1 => if 0 < g k then mkB g k ||| 2 ^ k else mkB g k
theorem mkB_bit {g : Nat → Nat} {j : Nat} : ∀ k, (mkB g k).testBit j = (decide (j < k) && decide (0 < g j))
  | 0 => by rw [mkB, Nat.zero_testBit]; simp
  | k + 1 => by
    have ih := mkB_bit (g := g) (j := j) k
    rw [mkB]
    by_cases h : 0 < g k
    · rw [if_pos h, Nat.testBit_or, ih, Nat.testBit_two_pow]
      by_cases z : j = k
      · subst z; simp [h]
      · have : ¬ k = j := fun y => z y.symm
        by_cases y : j < k
        · simp [y, this, show j < k + 1 by omega]
        · simp [y, this, show ¬ j < k + 1 by omega]
    · rw [if_neg h, ih]
      by_cases z : j = k
      · subst z; simp [h]
      · by_cases y : j < k
        · simp [y, show j < k + 1 by omega]
        · simp [y, show ¬ j < k + 1 by omega]
theorem mkB_lt {g : Nat → Nat} : ∀ k, mkB g k < 2 ^ k
  | 0 => by rw [mkB]; decide
  | k + 1 => by
    have ih := mkB_lt (g := g) k
    have h2 : 2 ^ k < 2 ^ (k + 1) := Nat.pow_lt_pow_right (by decide) (by omega)
    rw [mkB]
    split
    · exact Nat.or_lt_two_pow (by omega) h2
    · omega
section MAY
variable {n : Nat} {x : Nat → Nat → Int32} {w : Int64} {I : Nat → Nat → Int32} {L : Nat → Nat → Int64} {Q : Nat → Nat → Option Nat} {D : Nat → Bool} {c ho pa : Nat} {f : Nat → Nat}
theorem c_placesOf_l {i : Nat} {g : Nat → Nat} (hc : c ≤ 18) (hi : i < 15) (h6 : x 14 6 = nI c) (hg : ∀ q, q < 18 → I (14 + 6 + i) (q + 1) = nI (g q)) (hg2 : ∀ q, g q < 2 ^ 31) : ∀ (j u fu : Nat), u + j = c → j < fu → f_X1_placesOf_4 fu 14 (nI (i + 1)) (nI (mkB g u)) (nI (u + 1)) (MM n x w I L Q D) = some (nI (mkB g c))
  | 0, u, fu, h, hf => by
    obtain ⟨fu, rfl⟩ : ∃ n9, fu = n9 + 1 := ⟨fu - 1, by omega⟩
    obtain rfl : u = c := by omega
    rw [f_X1_placesOf_4, g_14_6, ob_s, h6, if_pos (nI_lt (by omega) (by omega))]
  | j + 1, u, fu, h, hf => by
    obtain ⟨fu, rfl⟩ : ∃ n9, fu = n9 + 1 := ⟨fu - 1, by omega⟩
    have ih := c_placesOf_l hc hi h6 hg hg2 j (u + 1) fu (by omega) (by omega)
    rw [mkB] at ih
    rw [f_X1_placesOf_4, g_14_6, ob_s, h6, if_neg (nI_nlt (by omega) (by omega)), Fi_r4 Fi14, ob_s, Fi_R Fi14 (by omega), ob_s, a_at (Fi_s6 Fi14 (by omega)) (Or.inl rfl) (by omega) (by decide), ob_s, show 14 + 5 + (i + 1) = 14 + 6 + i by omega, hg u (by omega)]
    by_cases z : 0 < g u
    · rw [if_pos z] at ih
      rw [if_neg (nI_nle z (hg2 u)), bitN (by omega) (by omega), ob_s, fa_or, nI_1, Nat.add_sub_cancel]
      exact ih
    · rw [if_neg z] at ih
      rw [if_pos (by rw [show g u = 0 by omega]; decide), nI_1]
      exact ih
theorem c_placesOf {i : Nat} (hB : BND) (hw : WF c ho pa f) (hi : i < 15) (hC : CNT 14 2656 x I L c ho pa f) : f_X1_placesOf (MM n x w I L Q D) 14 (nI (i + 1)) = some (nI (mkB (fun q => cf (q, i) (FL c ho pa f)) c)) := by
  unfold f_X1_placesOf
  exact c_placesOf_l (g := fun q => cf (q, i) (FL c ho pa f)) hw.1 hi hC.1 (fun q hq => hC.2.2.2.2.1 i q hi hq) (fun q => by have := FL_cf hB hw (q, i); show cf (q, i) _ < _; omega) c 0 4096 (by omega) (by have := hw.1; omega)
theorem m_may_l {i : Nat} {g : Nat → Nat} (hc : c ≤ 18) (hi : i < 15) (h0 : I 66 0 = nI c) (hg : ∀ q, q < 18 → I 77 (20 * (i + 1) + q) = nI (g q)) (hg2 : ∀ q, g q < 2 ^ 31) : ∀ (j u fu : Nat), u + j = c → j < fu → f_X7_may_32 fu 64 (nI (i + 1)) (nI (mkB g u)) (nI u) (MM n x w I L Q D) = some (nI (mkB g c), MM n x w I L Q D)
  | 0, u, fu, h, hf => by
    obtain ⟨fu, rfl⟩ : ∃ n9, fu = n9 + 1 := ⟨fu - 1, by omega⟩
    obtain rfl : u = c := by omega
    rw [f_X7_may_32, r_64_11, ob_s, show aI (MM n x w I L Q D) 0 66 0 = some (I 66 0) from m_at (j := 0) rfl (by decide), ob_s, h0, if_pos (Int32.le_refl _)]
  | j + 1, u, fu, h, hf => by
    obtain ⟨fu, rfl⟩ : ∃ n9, fu = n9 + 1 := ⟨fu - 1, by omega⟩
    have ih := m_may_l hc hi h0 hg hg2 j (u + 1) fu (by omega) (by omega)
    rw [mkB] at ih
    rw [f_X7_may_32, r_64_11, ob_s, show aI (MM n x w I L Q D) 0 66 0 = some (I 66 0) from m_at (j := 0) rfl (by decide), ob_s, h0, if_neg (nI_ge (by omega) (by omega)), r_64_23, ob_s, li20, pk_mul, nI_add, a_at (len := 320) rfl (Or.inl rfl) (by omega) (by decide), ob_s, hg u (by omega)]
    by_cases z : 0 < g u
    · rw [if_pos z] at ih
      rw [if_neg (nI_nle z (hg2 u)), sh1 u (by omega), fa_or, nI_1]
      exact ih
    · rw [if_neg z] at ih
      rw [if_pos (by rw [show g u = 0 by omega]; decide), nI_1]
      exact ih
end MAY
theorem s_may (hB : BND) : S_may (INVp PCc) := by
  intro h hI a1
  by_cases hd : ∃ i, i < 15 ∧ a1 = nI (i + 1)
  · obtain ⟨i, hi, rfl⟩ := hd
    refine both (fC := fun h => f_X6_may h 0 (nI (i + 1))) (fM := fun h => f_X7_may h 64 (nI (i + 1))) pcc_ok.sc (fun S => if (fR S).2.2.1.testBit i = true then nI (mkB (fun q => cf (q, i) (FL (fR S).1 (fR S).2.1 (fR S).2.2.1 (fR S).2.2.2)) (fR S).1) else NO) (fun S => S) (fun n x w I L Q D S hc => ?_) (fun n x w I L Q D S hb hm => ?_) hI
    · have hx : FrC x I 6 (fR S).1 (fR S).2.1 (fR S).2.2.1 (fR S).2.2.2 := hc.2.2.2.2.1.2
      have hw : WF (fR S).1 (fR S).2.1 (fR S).2.2.1 (fR S).2.2.2 := hc.2.2.2.2.1.1
      by_cases h1 : (fR S).2.2.1.testBit i = true
      · obtain ⟨x', I', L', e1, e2, e3, e4, -⟩ := c_counted (w := w) hB hc
        refine ⟨n, x', I', L', Q, D, ?_, e2, e4⟩
        show f_X6_may (MM n x w I L Q D) 0 (nI (i + 1)) = _
        unfold f_X6_may
        rw [r_0_4, ob_s, o_6, if_pos rfl, c_hp1 isF6 hx hi h1, ob_s, if_neg z10, o_0, if_pos rfl, e1, ob_s]
        show (if oK (MM n x' w I' L' Q D) 14 1 = true then _ else _) = _
        rw [o_14, if_pos rfl]
        show (f_X1_placesOf (MM n x' w I' L' Q D) 14 (nI (i + 1))).bind _ = _
        rw [c_placesOf hB hw hi e3, ob_s, if_pos h1]
      · refine ⟨n, x, I, L, Q, D, ?_, hc, SM.rf⟩
        show f_X6_may (MM n x w I L Q D) 0 (nI (i + 1)) = _
        unfold f_X6_may
        rw [r_0_4, ob_s, o_6, if_pos rfl, c_hp0 isF6 hx hi h1, ob_s, if_pos z00, if_neg h1]
        rfl
    · have hw := hb.1
      have hs : shp[66]? = some (0, 19) := rfl
      have hF := (hm.thrown (v := 0)).2.2.1.m0
      by_cases h1 : (fR S).2.2.1.testBit i = true
      · obtain ⟨x', I', e1, e2, e3, e4, e5, -⟩ := m_allN (n := n) (w := w) (L := L) (Q := Q) (D := D) (x := s2 x 64 0 0) (a := 66) (W := NO) (Or.inl rfl) hF hb.1
        refine ⟨x', w, I', ?_, (hm.thrown (v := 0)).all e2 e4, SC.s2x.tr (SC.all e2 e4)⟩
        show f_X7_may (MM n x w I L Q D) 64 (nI (i + 1)) = _
        unfold f_X7_may
        rw [p_64_0, ob_s, r_64_11, ob_s, m_isTold hs hF hw.2.2.1 (by omega), ob_s, if_neg (by rw [bI_0, Nat.add_sub_cancel]; simp [h1]; omega), ob_s, o_64, if_pos rfl, liN, e1, ob_s, if_pos h1]
        exact m_may_l (g := fun q => cf (q, i) (FL (fR S).1 (fR S).2.1 (fR S).2.2.1 (fR S).2.2.2)) hw.1 hi (by rw [e4 66 (by decide) (by decide) (by decide)]; exact hF.1) (fun q hq => e5 i q hi hq) (fun q => by have := FL_cf hB hw (q, i); show cf (q, i) _ < _; omega) (fR S).1 0 4096 (by omega) (by have := hw.1; omega)
      · refine ⟨s2 x 64 0 0, w, I, ?_, hm.thrown, SC.s2x⟩
        show f_X7_may (MM n x w I L Q D) 64 (nI (i + 1)) = _
        unfold f_X7_may
        rw [p_64_0, ob_s, r_64_11, ob_s, m_isTold hs hF hw.2.2.1 (by omega), ob_s, if_pos (by rw [bI_0, Nat.add_sub_cancel]; simp [h1]), if_neg h1]
        rfl
  · have hno : ∀ i, i < 15 → a1 ≠ nI (i + 1) := fun i hi e => hd ⟨i, hi, e⟩
    refine both (fC := fun h => f_X6_may h 0 a1) (fM := fun h => f_X7_may h 64 a1) pcc_ok.sc (fun S => NO) (fun S => S) (fun n x w I L Q D S hc => ⟨n, x, I, L, Q, D, ?_, hc, SM.rf⟩) (fun n x w I L Q D S hb hm => ⟨s2 x 64 0 0, w, I, ?_, hm.thrown, SC.s2x⟩) hI
    · have hx : FrC x I 6 (fR S).1 (fR S).2.1 (fR S).2.2.1 (fR S).2.2.2 := hc.2.2.2.2.1.2
      show f_X6_may (MM n x w I L Q D) 0 a1 = _
      unfold f_X6_may
      rw [r_0_4, ob_s, o_6, if_pos rfl, hp_out hno isF6 hx, ob_s, if_pos rfl]
      rfl
    · have hF := (hm.thrown (v := 0)).2.2.1.m0
      show f_X7_may (MM n x w I L Q D) 64 a1 = _
      unfold f_X7_may
      rw [p_64_0, ob_s, r_64_11, ob_s, told_out hno rfl hF hb.1.2.2.1, ob_s, if_pos rfl]
      rfl
/-! sure -/
def sumK (g : Nat → Nat) : Nat → Nat
  | 0 => 0
  | k + 1 => sumK g k + g k
theorem sumK_one {g : Nat → Nat} {k0 : Nat} : ∀ c, (∀ k, k < c → k ≠ k0 → g k = 0) → sumK g c = if k0 < c then g k0 else 0
  | 0, _ => by rw [sumK, if_neg (by omega)]
  | c + 1, h => by
    rw [sumK, sumK_one c (fun k hk => h k (by omega))]
    by_cases z : k0 = c
    · subst z; rw [if_neg (by omega), if_pos (by omega)]; omega
    · rw [h c (by omega) (fun y => z y.symm)]
      by_cases y : k0 < c
      · rw [if_pos y, if_pos (by omega)]; omega
      · rw [if_neg y, if_neg (by omega)]
theorem sumK_ge {g : Nat → Nat} {k0 : Nat} : ∀ c, k0 < c → g k0 ≤ sumK g c
  | 0, h => by omega
  | c + 1, h => by
    rw [sumK]
    by_cases z : k0 = c
    · subst z; omega
    · have := sumK_ge (g := g) (k0 := k0) c (by omega); omega
theorem sumK_ge2 {g : Nat → Nat} {k0 k1 : Nat} (hne : k0 < k1) : ∀ c, k1 < c → g k0 + g k1 ≤ sumK g c
  | 0, h => by omega
  | c + 1, h => by
    rw [sumK]
    by_cases z : k1 = c
    · subst z
      have := sumK_ge (g := g) (k0 := k0) k1 hne; omega
    · have := sumK_ge2 (g := g) hne c (by omega); omega
theorem sumK_add {g h : Nat → Nat} : ∀ c, sumK (fun k => g k + h k) c = sumK g c + sumK h c
  | 0 => rfl
  | c + 1 => by rw [sumK, sumK, sumK, sumK_add c]; omega
theorem cf_sum {c i : Nat} : ∀ (E : List (List (Nat × Nat))), (∀ e ∈ E, sumK (fun k => e.count (k, i)) c = 1) → sumK (fun k => cf (k, i) E) c = E.length
  | [], _ => by
    have : ∀ c, sumK (fun _ => 0) c = 0 := fun c => by
      induction c with
      | zero => rfl
      | succ c ih => rw [sumK, ih]
    exact this c
  | e :: E, h => by
    have : (fun k => cf (k, i) (e :: E)) = fun k => e.count (k, i) + cf (k, i) E := rfl
    rw [this, sumK_add, h e (List.mem_cons_self ..), cf_sum E (fun a ha => h a (List.mem_cons_of_mem _ ha)), List.length_cons]
    omega
theorem VE.sum {c fr un i : Nat} {e : List (Nat × Nat)} (h : VE fr un e) (hc : fr < 2 ^ c) (hi : un.testBit i = true) : sumK (fun k => e.count (k, i)) c = 1 := by
  obtain ⟨q, hq⟩ := (h.one i).1 hi
  have hb := h.bnd hc hq
  have hb : q + i + 1 < c := hb
  rw [sumK_one (k0 := q) c (fun k hk hne => ?_), if_pos (by omega)]
  · show e.count (q, i) = 1
    rw [h.count, if_pos hq]
  · show e.count (k, i) = 0
    rw [h.count, if_neg]
    intro z
    exact hne (congrArg Prod.fst ((h.one i).2 _ _ z hq rfl rfl))
theorem ct_one {p : Nat → Bool} {k0 n : Nat} (h0 : k0 < n) : fb_ct p n = 1 → p k0 = true → ∀ k, k < n → p k = true → k = k0 := by
  intro h1 h2 k hk h3
  by_cases z : k = k0
  · exact z
  · have a := fb_ct_upd p false (i := k0) h0
    rw [h2] at a
    simp at a
    have b : 0 < fb_ct (fun j => if j = k0 then false else p j) n := fb_ct_pos.mpr ⟨k, hk, by rw [if_neg z]; exact h3⟩
    simp at b
    omega
theorem ct_just {p : Nat → Bool} {k0 n : Nat} (h0 : k0 < n) (h1 : p k0 = true) (h2 : ∀ k, k < n → p k = true → k = k0) : fb_ct p n = 1 := by
  have a := fb_ct_upd p false (i := k0) h0
  rw [h1] at a
  have b : fb_ct (fun j => if j = k0 then false else p j) n = 0 := fb_ct_zero.mpr fun k hk => by
    by_cases z : k = k0
    · rw [if_pos z]
    · rw [if_neg z]
      cases q : p k with
      | false => rfl
      | true => exact absurd (h2 k hk q) z
  simp at a b
  omega
/-- stands at one place in all: told, and its places are one -/
theorem sure_iff {c ho pa i : Nat} {f : Nat → Nat} (hw : WF c ho pa f) (hi : i < 15) : (pa.testBit i = true ∧ pc (mkB (fun q => cf (q, i) (FL c ho pa f)) c) = 1) ↔ (0 < (FL c ho pa f).length ∧ ∃ k, k < c ∧ cf (k, i) (FL c ho pa f) = (FL c ho pa f).length) := by
  have hc := hw.1
  have hbit : ∀ k, (mkB (fun q => cf (q, i) (FL c ho pa f)) c).testBit k = (decide (k < c) && decide (0 < cf (k, i) (FL c ho pa f))) := fun k => mkB_bit c
  constructor
  · rintro ⟨h1, h2⟩
    have hs := cf_sum (c := c) (i := i) (FL c ho pa f) (fun e he => (FL_VE he).sum (plM_lt hw.2.1) h1)
    rw [pc_ct] at h2
    obtain ⟨k0, a1, a2⟩ := fb_ct_pos.mp (show 0 < fb_ct (fun k => (mkB (fun q => cf (q, i) (FL c ho pa f)) c).testBit k) 18 by omega)
    have hu := ct_one a1 h2 a2
    rw [hbit] at a2
    simp only [Bool.and_eq_true, decide_eq_true_eq] at a2
    have he : sumK (fun k => cf (k, i) (FL c ho pa f)) c = cf (k0, i) (FL c ho pa f) := by
      rw [sumK_one (k0 := k0) c (fun k hk hne => ?_), if_pos a2.1]
      show cf (k, i) _ = 0
      by_cases z : 0 < cf (k, i) (FL c ho pa f)
      · exact absurd (hu k (by omega) (by rw [hbit]; simp; exact ⟨hk, z⟩)) hne
      · omega
    exact ⟨by omega, k0, a2.1, by omega⟩
  · rintro ⟨h1, k0, h2, h3⟩
    have htold : pa.testBit i = true := by
      cases z : pa.testBit i with
      | true => rfl
      | false =>
        have : cf (k0, i) (FL c ho pa f) = 0 := by
          have : ∀ (E : List (List (Nat × Nat))), (∀ e ∈ E, VE (plM c ho) pa e) → cf (k0, i) E = 0 := fun E => by
            induction E with
            | nil => intro _; rfl
            | cons e E ih =>
              intro h
              rw [cf, ih (fun a ha => h a (List.mem_cons_of_mem _ ha)), (h e (List.mem_cons_self ..)).count, if_neg]
              intro y
              have := ((h e (List.mem_cons_self ..)).mem _ y).2.2.1
              have this : pa.testBit i = true := this
              rw [z] at this
              cases this
          exact this _ (fun e he => FL_VE he)
        omega
    refine ⟨htold, ?_⟩
    have hs := cf_sum (c := c) (i := i) (FL c ho pa f) (fun e he => (FL_VE he).sum (plM_lt hw.2.1) htold)
    rw [pc_ct]
    refine ct_just (k0 := k0) (by omega) (by rw [hbit]; simp; exact ⟨h2, by omega⟩) (fun k hk hp => ?_)
    rw [hbit] at hp
    simp only [Bool.and_eq_true, decide_eq_true_eq] at hp
    by_cases z : k < k0
    · have := sumK_ge2 (g := fun k => cf (k, i) (FL c ho pa f)) z c h2
      have this : cf (k, i) (FL c ho pa f) + cf (k0, i) (FL c ho pa f) ≤ _ := this
      omega
    · by_cases y : k0 < k
      · have := sumK_ge2 (g := fun k => cf (k, i) (FL c ho pa f)) y c hp.1
        have this : cf (k0, i) (FL c ho pa f) + cf (k, i) (FL c ho pa f) ≤ _ := this
        omega
      · omega
def srB (p : Nat → Bool) : Nat → Nat
  | 0 => 0
  | k + 1 => if p k = true then srB p k ||| 2 ^ k else srB p k
theorem srB_cong {p q : Nat → Bool} : ∀ k, (∀ i, i < k → p i = q i) → srB p k = srB q k
  | 0, _ => rfl
  | k + 1, h => by rw [srB, srB, srB_cong k (fun i hi => h i (by omega)), h k (by omega)]
section SURE
variable {n : Nat} {x : Nat → Nat → Int32} {w : Int64} {I : Nat → Nat → Int32} {L : Nat → Nat → Int64} {Q : Nat → Nat → Option Nat} {D : Nat → Bool} {c ho pa : Nat} {f : Nat → Nat}
theorem c_sure_l (hB : BND) (hw : WF c ho pa f) (hx : FrC x I 6 c ho pa f) (hC : CNT 14 2656 x I L c ho pa f) {p : Nat → Bool} (hp : ∀ i, i < 15 → p i = (pa.testBit i && decide (pc (mkB (fun q => cf (q, i) (FL c ho pa f)) c) = 1))) : ∀ (j u fu : Nat), u + j = 15 → j < fu → f_X6_sure_9 fu 0 14 (nI (srB p u)) (nI (u + 1)) (MM n x w I L Q D) = some (nI (srB p 15), MM n x w I L Q D)
  | 0, u, fu, h, hf => by
    obtain ⟨fu, rfl⟩ : ∃ n9, fu = n9 + 1 := ⟨fu - 1, by omega⟩
    obtain rfl : u = 15 := by omega
    rw [f_X6_sure_9, if_pos (by decide)]
  | j + 1, u, fu, h, hf => by
    obtain ⟨fu, rfl⟩ : ∃ n9, fu = n9 + 1 := ⟨fu - 1, by omega⟩
    have ih := c_sure_l hB hw hx hC hp j (u + 1) fu (by omega) (by omega)
    rw [srB] at ih
    have hpu := hp u (by omega)
    have hmk : mkB (fun q => cf (q, u) (FL c ho pa f)) c < 2 ^ 18 := Nat.lt_of_lt_of_le (mkB_lt c) (Nat.pow_le_pow_right (by decide) hw.1)
    rw [f_X6_sure_9, li15, if_neg (nI_nlt (by omega) (by omega)), r_0_4, ob_s, o_6, if_pos rfl]
    by_cases ht : pa.testBit u = true
    · rw [c_hp1 isF6 hx (by omega) ht, ob_s, if_neg z10, o_14, if_pos rfl]
      have es : f_X1_isSure (MM n x w I L Q D) 14 (nI (u + 1)) = some (if pc (mkB (fun q => cf (q, u) (FL c ho pa f)) c) = 1 then 1 else 0) := by
        have : pc (mkB (fun q => cf (q, u) (FL c ho pa f)) c) ≤ 18 := pcN_le 18 _
        unfold f_X1_isSure
        rw [o_14, if_pos rfl, c_placesOf hB hw (by omega) hC, ob_s, bcN hmk, ob_s]
        by_cases z : pc (mkB (fun q => cf (q, u) (FL c ho pa f)) c) = 1
        · rw [if_pos (by rw [z]; rfl), if_pos z]
        · rw [if_neg (show ¬ nI (pc (mkB (fun q => cf (q, u) (FL c ho pa f)) c)) = 1 from fun y => z ((nI_eq (b := 1) (by omega) (by decide)).mp y)), if_neg z]
      rw [es, ob_s]
      by_cases z : pc (mkB (fun q => cf (q, u) (FL c ho pa f)) c) = 1
      · rw [if_pos (by rw [hpu, ht]; simpa using z)] at ih
        rw [if_pos z, if_neg z10, bitN (by omega) (by omega), ob_s, Nat.add_sub_cancel, fa_or, nI_1]
        exact ih
      · rw [if_neg (by rw [hpu, ht]; simpa using z)] at ih
        rw [if_neg z, if_pos rfl, nI_1]
        exact ih
    · rw [if_neg (by rw [hpu]; simp [ht])] at ih
      rw [c_hp0 isF6 hx (by omega) ht, ob_s, if_pos z00, nI_1]
      exact ih
theorem m_sure28 {N9 i : Nat} {g : Nat → Nat} {m : Nat} {k19 : Nat → Int32 → Int32 → Int32 → Hp → Option (Int32 × Hp)} (hc : c ≤ 18) (hi : i < 15) (hN : N9 < 2 ^ 31) (h0 : I 66 0 = nI c) (hg : ∀ q, q < 18 → I 77 (20 * (i + 1) + q) = nI (g q)) (hg2 : ∀ q, g q < 2 ^ 31) : ∀ (j u fu : Nat), u + j = c → j < fu →
    f_X7_sure_28 k19 fu 64 (nI N9) (nI (if 0 < N9 ∧ ∃ k, k < u ∧ g k = N9 then m ||| 2 ^ i else m)) (nI (i + 1)) (nI u) (MM n x w I L Q D) = k19 64 (nI N9) (nI (if 0 < N9 ∧ ∃ k, k < c ∧ g k = N9 then m ||| 2 ^ i else m)) (nI (i + 2)) (MM n x w I L Q D)
  | 0, u, fu, h, hf => by
    obtain ⟨fu, rfl⟩ : ∃ n9, fu = n9 + 1 := ⟨fu - 1, by omega⟩
    obtain rfl : u = c := by omega
    rw [f_X7_sure_28, r_64_11, ob_s, show aI (MM n x w I L Q D) 0 66 0 = some (I 66 0) from m_at (j := 0) rfl (by decide), ob_s, h0, if_pos (Int32.le_refl _), nI_1]
  | j + 1, u, fu, h, hf => by
    obtain ⟨fu, rfl⟩ : ∃ n9, fu = n9 + 1 := ⟨fu - 1, by omega⟩
    have ih := m_sure28 (m := m) (k19 := k19) hc hi hN h0 hg hg2 j (u + 1) fu (by omega) (by omega)
    rw [f_X7_sure_28, r_64_11, ob_s, show aI (MM n x w I L Q D) 0 66 0 = some (I 66 0) from m_at (j := 0) rfl (by decide), ob_s, h0, if_neg (nI_ge (by omega) (by omega))]
    by_cases hN0 : 0 < N9
    · rw [if_neg (nI_nle hN0 hN), r_64_23, ob_s, li20, pk_mul, nI_add, a_at (len := 320) rfl (Or.inl rfl) (by omega) (by decide), ob_s, hg u (by omega)]
      by_cases z : g u = N9
      · have hy : 0 < N9 ∧ ∃ k, k < u + 1 ∧ g k = N9 := ⟨hN0, u, by omega, z⟩
        rw [if_pos hy] at ih
        have hor : (if 0 < N9 ∧ ∃ k, k < u ∧ g k = N9 then m ||| 2 ^ i else m) ||| 2 ^ i = m ||| 2 ^ i := by
          split
          · rw [Nat.or_assoc, Nat.or_self]
          · rfl
        rw [if_pos (by rw [z]), li1, pk_sub (by omega), Nat.add_sub_cancel, ← li1, sh1 i (by omega), fa_or, hor, nI_1]
        exact ih
      · have hy : (0 < N9 ∧ ∃ k, k < u + 1 ∧ g k = N9) ↔ (0 < N9 ∧ ∃ k, k < u ∧ g k = N9) := by
          constructor
          · rintro ⟨a, k, b, d⟩
            exact ⟨a, k, by have : k ≠ u := fun y => z (by rw [← y]; exact d); omega, d⟩
          · rintro ⟨a, k, b, d⟩
            exact ⟨a, k, by omega, d⟩
        simp only [hy] at ih
        rw [if_neg (fun y => z ((nI_eq (hg2 u) hN).mp y)), nI_1]
        exact ih
    · rw [if_pos (by rw [show N9 = 0 by omega]; decide), nI_1]
      rw [if_neg (fun y => hN0 y.1)] at ih ⊢
      exact ih
theorem m_sure_l {N9 : Nat} {g : Nat → Nat → Nat} {p : Nat → Bool} (hc : c ≤ 18) (hN : N9 < 2 ^ 31) (h0 : I 66 0 = nI c) (hg : ∀ i q, i < 15 → q < 18 → I 77 (20 * (i + 1) + q) = nI (g i q)) (hg2 : ∀ i q, g i q < 2 ^ 31) (hp : ∀ i, i < 15 → (p i = true ↔ (0 < N9 ∧ ∃ k, k < c ∧ g i k = N9))) : ∀ (j u fu : Nat), u + j = 15 → j < fu → f_X7_sure_19 fu 64 (nI N9) (nI (srB p u)) (nI (u + 1)) (MM n x w I L Q D) = some (nI (srB p 15), MM n x w I L Q D)
  | 0, u, fu, h, hf => by
    obtain ⟨fu, rfl⟩ : ∃ n9, fu = n9 + 1 := ⟨fu - 1, by omega⟩
    obtain rfl : u = 15 := by omega
    rw [f_X7_sure_19, if_pos (by decide)]
  | j + 1, u, fu, h, hf => by
    obtain ⟨fu, rfl⟩ : ∃ n9, fu = n9 + 1 := ⟨fu - 1, by omega⟩
    have ih := m_sure_l hc hN h0 hg hg2 hp j (u + 1) fu (by omega) (by omega)
    have e := m_sure28 (n := n) (x := x) (w := w) (L := L) (Q := Q) (D := D) (m := srB p u) (i := u) (g := g u) (k19 := f_X7_sure_19 fu) hc (by omega) hN h0 (fun q hq => hg u q (by omega) hq) (hg2 u) c 0 4096 (by omega) (by omega)
    rw [if_neg (fun y => by obtain ⟨_, k, hk, _⟩ := y; omega)] at e
    rw [f_X7_sure_19, li15, if_neg (nI_nlt (by omega) (by omega))]
    show f_X7_sure_28 (f_X7_sure_19 fu) 4096 64 (nI N9) (nI (srB p u)) (nI (u + 1)) (nI 0) _ = _
    rw [e]
    rw [srB] at ih
    by_cases z : p u = true
    · rw [if_pos z] at ih
      rw [if_pos ((hp u (by omega)).mp z)]
      exact ih
    · rw [if_neg z] at ih
      rw [if_neg (fun y => z ((hp u (by omega)).mpr y))]
      exact ih
end SURE
theorem s_sure (hB : BND) : S_sure (INVp PCc) := by
  intro h hI
  refine both (fC := fun h => f_X6_sure h 0) (fM := fun h => f_X7_sure h 64) pcc_ok.sc (fun S => nI (srB (fun i => (fR S).2.2.1.testBit i && decide (pc (mkB (fun q => cf (q, i) (FL (fR S).1 (fR S).2.1 (fR S).2.2.1 (fR S).2.2.2)) (fR S).1) = 1)) 15)) (fun S => S) (fun n x w I L Q D S hc => ?_) (fun n x w I L Q D S hb hm => ?_) hI
  · obtain ⟨x', I', L', e1, e2, e3, e4, -⟩ := c_counted (w := w) hB hc
    have hx : FrC x' I' 6 (fR S).1 (fR S).2.1 (fR S).2.2.1 (fR S).2.2.2 := e2.2.2.2.2.1.2
    have hw : WF (fR S).1 (fR S).2.1 (fR S).2.2.1 (fR S).2.2.2 := hc.2.2.2.2.1.1
    refine ⟨n, x', I', L', Q, D, ?_, e2, e4⟩
    show f_X6_sure (MM n x w I L Q D) 0 = _
    unfold f_X6_sure
    rw [o_0, if_pos rfl, e1, ob_s]
    exact c_sure_l hB hw hx e3 (fun i hi => rfl) 15 0 4096 (by omega) (by omega)
  · have hw := hb.1
    have hF := (hm.thrown (v := 0)).2.2.1.m0
    obtain ⟨x', I', e1, e2, e3, e4, e5, -⟩ := m_allN (n := n) (w := w) (L := L) (Q := Q) (D := D) (x := s2 x 64 0 0) (a := 66) (W := NO) (Or.inl rfl) hF hb.1
    refine ⟨x', w, I', ?_, (hm.thrown (v := 0)).all e2 e4, SC.s2x.tr (SC.all e2 e4)⟩
    show f_X7_sure (MM n x w I L Q D) 64 = _
    unfold f_X7_sure
    rw [p_64_0, ob_s, r_64_11, ob_s, o_64, if_pos rfl, liN, e1, ob_s]
    exact m_sure_l (g := fun i q => cf (q, i) (FL (fR S).1 (fR S).2.1 (fR S).2.2.1 (fR S).2.2.2)) hw.1 (by have := FL_len hB hw; omega) (by rw [e4 66 (by decide) (by decide) (by decide)]; exact hF.1) (fun i q hi hq => e5 i q hi hq) (fun i q => by have := FL_cf hB hw (q, i); show cf (q, i) _ < _; omega) (fun i hi => by
      rw [← sure_iff hw hi]
      simp) 15 0 4096 (by omega) (by omega)
/-! extended -/
theorem extS : ∀ o, o < 8 → pc (2 ^ o - 1) ≤ 9 ∧ 2 ^ o - 1 < 2 ^ 15 := by decide +kernel
theorem extW {o h : Nat} (h1 : 1 ≤ o) (h7 : o ≤ 7) (h2 : 1 ≤ h) (h3 : h ≤ 2 * o + 1) : WF (2 * o + 1) (2 ^ (h - 1)) (2 ^ o - 1) (fun _ => 0) := by
  have := extS o (by omega)
  exact ⟨by omega, Nat.pow_lt_pow_right (by decide) (by omega), this.2, this.1, fun d hd => Or.inl rfl, fun d e _ _ _ h0 => absurd rfl h0⟩
theorem s_extended (hB : BND) : S_extended (INVp PCc) := by
  intro h hI a1 a2
  by_cases hd : ∃ o e, 1 ≤ o ∧ o ≤ 7 ∧ 1 ≤ e ∧ e ≤ 2 * o + 1 ∧ a1 = nI o ∧ a2 = nI e
  · obtain ⟨o, e, h1, h7, h2, h3, rfl, rfl⟩ := hd
    have hw := extW h1 h7 h2 h3
    have hpos := Nat.two_pow_pos o
    have e2o1 : (2 : Int32) * nI o + 1 = nI (2 * o + 1) := by rw [li2, pk_mul, nI_1]
    refine both (fC := fun h => f_X6_extended h 0 (nI o) (nI e)) (fM := fun h => f_X7_extended h 64 (nI o) (nI e)) pcc_ok.sc (fun _ => nI (FL (2 * o + 1) (2 ^ (e - 1)) (2 ^ o - 1) (fun _ => 0)).length) (fun S => S) (fun n x w I L Q D S hc => ?_) (fun n x w I L Q D S hb hm => ?_) hI
    · obtain ⟨x1, I1, b1, b2, b3⟩ := c_begin (n := n) (x := x) (w := w) (I := I) (L := L) (Q := Q) (D := D) (v0 := nI (2 * o + 1)) (v1 := nI (2 ^ (e - 1))) (v2 := nI (2 ^ o - 1)) (isF36 (D := D))
      have hfr : FrC x1 I1 36 (2 * o + 1) (2 ^ (e - 1)) (2 ^ o - 1) (fun _ => 0) := ⟨by rw [b2]; rfl, by rw [b2]; rfl, by rw [b2]; rfl, fun d hd => by rw [b3, if_pos ⟨rfl, hd⟩]; rfl⟩
      obtain ⟨x2, I2, L2, d1, d2, d3, d4, d5, d6⟩ := c_countAll (n := n) (w := w) (Q := Q) (D := D) (L := L) hB Fi38 (isF36 (D := D)) (by omega) hw hfr (by omega)
      have ex : ∀ a, a ≠ 36 → a ≠ 38 → x2 a = x a := fun a q1 q2 => funext fun k => by rw [d4 a k (fun z => q2 z.1), b2, if_neg (fun z => q1 z.1)]
      have ei : ∀ a, a ≠ 37 → ¬ (40 ≤ a ∧ a ≤ 58) → I2 a = I a := fun a q1 q2 => by rw [d5 a (by omega)]; funext k; rw [b3, if_neg (fun z => q1 (by omega))]
      refine ⟨n, x2, I2, L2, Q, D, ?_, hc.cong (fun a ha => ex a (by omega) (by omega)) (fun a ha => ei a (by omega) (by omega)) (pcc_ok.2 x I L x2 I2 L2 (fR S) (ex 14 (by decide) (by decide)) (fun a k1 k2 => ei a (by omega) (by omega)) (d6 35 (by decide) (by decide)) (d6 15 (by decide) (by decide)) hc.2.2.2.2.2.2.2.2), SM.of (fun a k1 k2 => ex a (by omega) (by omega)) (fun a k1 k2 => ei a (by omega) (by omega))⟩
      show f_X6_extended (MM n x w I L Q D) 0 (nI o) (nI e) = _
      unfold f_X6_extended
      rw [e2o1, shc o (by omega), li1, li7, if_neg (nI_nlt (by omega) (by omega)), if_neg (nI_nlt (by omega) (by omega)), if_neg (nI_nlt (by omega) (by omega)), if_pos (nI_le (by omega) (by omega)), r_0_10, ob_s, bitN (by omega) (by omega), ob_s, o_36, if_pos rfl, pk_sub (by omega), b1, ob_s, r_0_11, ob_s, r_0_10, ob_s, o_38, if_pos rfl, d1, ob_s, r_0_11, ob_s, g_38_7, ob_s, d3.2.1]
    · obtain ⟨I1, f1, f2, f3⟩ := m_laysKind (n := n) (x := s2 x 64 0 0) (w := w) (I := I) (L := L) (Q := Q) (D := D) (a := 72) (k := 3) (o := o) rfl (by decide) h1 (by omega)
      have hF : FrM0 (s2 I1 72 1 (nI (2 ^ (e - 1)))) 72 (2 * o + 1) (2 ^ (e - 1)) (2 ^ o - 1) (fun _ => 0) := ⟨by rw [s2_ne (by decide)]; exact f3.1, s2_e, by rw [s2_ne (by decide)]; exact f3.2.2.1, fun d hd => by rw [s2_ne (by omega)]; have := f3.2.2.2 d hd; rw [show 0 + 3 + d = 3 + d by omega] at this; exact this⟩
      obtain ⟨x', I', e1, e2, e3, e4, e5, -⟩ := m_allN (n := n) (w := w) (L := L) (Q := Q) (D := D) (x := s2 x 64 0 0) (W := NO) (Or.inr rfl) hF hw
      have hI1 : ∀ a, a ≠ 72 → (s2 I1 72 1 (nI (2 ^ (e - 1)))) a = I a := fun a q => by rw [s2_row q, f2 a q]
      refine ⟨x', w, I', ?_, MI.all e2 e4 ((hm.thrown (v := 0)).cong rfl rfl rfl rfl (fun a ha => hI1 a (by omega))), SC.s2x.tr (SC.tr (fun a ha => ⟨rfl, hI1 a (by omega)⟩) (SC.all e2 e4))⟩
      show f_X7_extended (MM n x w I L Q D) 64 (nI o) (nI e) = _
      unfold f_X7_extended
      rw [liN, e2o1, p_64_0, ob_s, show f_X7_isIn (MM n (s2 x 64 0 0) w I L Q D) (nI o) 1 7 = _ from m_isIn (b := 1) (c := 7) (by omega) (by decide) (by decide), ob_s, if_neg (show ¬ bI (decide (1 ≤ o ∧ o ≤ 7)) = 0 by rw [bI_0]; simp; omega), show f_X7_isIn (MM n (s2 x 64 0 0) w I L Q D) (nI e) 1 (nI (2 * o + 1)) = _ from m_isIn (b := 1) (by omega) (by decide) (by omega), ob_s, if_neg (show ¬ bI (decide (1 ≤ e ∧ e ≤ 2 * o + 1)) = 0 by rw [bI_0]; simp; omega), r_64_17, ob_s, show f_X7_laysKind (MM n (s2 x 64 0 0) w I L Q D) 72 3 (nI o) = _ from f1, ob_s, r_64_17, ob_s, li1, m_shl (by omega) (by omega), m_set (a := 72) rfl (by decide), ob_s, r_64_17, ob_s, o_64, if_pos rfl, e1, ob_s]
  · refine both (fC := fun h => f_X6_extended h 0 a1 a2) (fM := fun h => f_X7_extended h 64 a1 a2) pcc_ok.sc (fun S => NO) (fun S => S) (fun n x w I L Q D S hc => ⟨n, x, I, L, Q, D, ?_, hc, SM.rf⟩) (fun n x w I L Q D S hb hm => ⟨s2 x 64 0 0, w, I, ?_, hm.thrown, SC.s2x⟩) hI
    · show f_X6_extended (MM n x w I L Q D) 0 a1 a2 = _
      unfold f_X6_extended
      rw [liN]
      rcases neg_or a1 with hq | ⟨o, ho, rfl⟩
      · rw [if_pos (show a1 < 1 from neg_lt (k := 1) hq (by decide))]
      · by_cases z1 : o < 1
        · rw [if_pos (show nI o < 1 from nI_lt (b := 1) z1 (by decide))]
        · rw [if_neg (show ¬ nI o < 1 from nI_nlt (b := 1) (by omega) ho)]
          by_cases z2 : 7 < o
          · rw [if_pos (show (7 : Int32) < nI o from nI_lt (a := 7) z2 ho)]
          · rw [if_neg (show ¬ (7 : Int32) < nI o from nI_nlt (a := 7) (by omega) (by decide))]
            rcases neg_or a2 with hq | ⟨e, he, rfl⟩
            · rw [if_pos (show a2 < 1 from neg_lt (k := 1) hq (by decide))]
            · by_cases z3 : e < 1
              · rw [if_pos (show nI e < 1 from nI_lt (b := 1) z3 (by decide))]
              · rw [if_neg (show ¬ nI e < 1 from nI_nlt (b := 1) (by omega) he), li2, pk_mul, nI_1, if_neg (nI_ge (Nat.lt_of_not_le fun y => hd ⟨o, e, by omega, by omega, by omega, y, rfl, rfl⟩) he)]
    · show f_X7_extended (MM n x w I L Q D) 64 a1 a2 = _
      unfold f_X7_extended
      rw [liN, p_64_0, ob_s]
      rcases neg_or a1 with hq | ⟨o, ho, rfl⟩
      · rw [show f_X7_isIn (MM n (s2 x 64 0 0) w I L Q D) a1 1 7 = some 0 from m_isInN (b := 1) hq (by decide), ob_s, if_pos rfl]
      · rw [show f_X7_isIn (MM n (s2 x 64 0 0) w I L Q D) (nI o) 1 7 = _ from m_isIn (b := 1) (c := 7) ho (by decide) (by decide), ob_s]
        by_cases z : 1 ≤ o ∧ o ≤ 7
        · rw [if_neg (show ¬ bI (decide (1 ≤ o ∧ o ≤ 7)) = 0 by rw [bI_0]; simp; omega), li2, pk_mul, nI_1]
          rcases neg_or a2 with hq | ⟨e, he, rfl⟩
          · rw [show f_X7_isIn (MM n (s2 x 64 0 0) w I L Q D) a2 1 (nI (2 * o + 1)) = some 0 from m_isInN (b := 1) hq (by decide), ob_s, if_pos rfl]
          · rw [show f_X7_isIn (MM n (s2 x 64 0 0) w I L Q D) (nI e) 1 (nI (2 * o + 1)) = _ from m_isIn (b := 1) he (by decide) (by omega), ob_s, if_pos (show bI (decide (1 ≤ e ∧ e ≤ 2 * o + 1)) = 0 by
              rw [bI_0]
              exact decide_eq_false fun y => hd ⟨o, e, z.1, z.2, y.1, y.2, rfl, rfl⟩)]
        · rw [if_pos (show bI (decide (1 ≤ o ∧ o ≤ 7)) = 0 by rw [bI_0]; exact decide_eq_false z)]
