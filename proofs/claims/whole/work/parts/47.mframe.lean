/-! the model's frames -/
def FrM0 (I : Nat → Nat → Int32) (a c ho pa : Nat) (f : Nat → Nat) : Prop := I a 0 = nI c ∧ I a 1 = nI ho ∧ I a 2 = nI pa ∧ ∀ d, d < 16 → I a (3 + d) = nI (f d)
theorem m_isIn {h : Hp} {a b c : Nat} (ha : a < 2 ^ 31) (hb : b < 2 ^ 31) (hc : c < 2 ^ 31) : f_X7_isIn h (nI a) (nI b) (nI c) = some (bI (decide (b ≤ a ∧ a ≤ c))) := by
  unfold f_X7_isIn
  by_cases h1 : a < b
  · rw [if_pos (nI_lt h1 hb), show decide (b ≤ a ∧ a ≤ c) = false by simp; omega]; rfl
  · rw [if_neg (nI_nlt (by omega) ha)]
    by_cases h2 : c < a
    · rw [if_pos (nI_lt h2 ha), show decide (b ≤ a ∧ a ≤ c) = false by simp; omega]; rfl
    · rw [if_neg (nI_nlt (by omega) hc), show decide (b ≤ a ∧ a ≤ c) = true by simp; omega]; rfl
theorem m_isInN {h : Hp} {q u : Int32} {b : Nat} (hq : q < 0) (hb : b < 2 ^ 31) : f_X7_isIn h q (nI b) u = some 0 := by
  unfold f_X7_isIn
  rw [if_pos (neg_lt hq hb)]
theorem bI_0 {b : Bool} : bI b = 0 ↔ b = false := by cases b <;> decide
theorem bI_1 {b : Bool} : bI b = 1 ↔ b = true := by cases b <;> decide
theorem sub3 {x y z : Int32} : x - (y + z) = x - y - z := by
  rw [Int32.sub_eq_add_neg, Int32.neg_add, Int32.sub_eq_add_neg, Int32.sub_eq_add_neg, ← Int32.add_assoc, Int32.sub_eq_add_neg]
section FRM
variable {n : Nat} {x : Nat → Nat → Int32} {w : Int64} {I : Nat → Nat → Int32} {L : Nat → Nat → Int64} {Q : Nat → Nat → Option Nat} {D : Nat → Bool} {a c ho pa : Nat} {f : Nat → Nat}
theorem m_at {j : Nat} (hs : shp[a]? = some (0, 19)) (hj : j < 19) : aI (MM n x w I L Q D) 0 a (nI j) = some (I a j) := a_at hs (Or.inl rfl) hj (by decide)
theorem m_set {j : Nat} {v : Int32} (hs : shp[a]? = some (0, 19)) (hj : j < 19) : sI (MM n x w I L Q D) 0 a (nI j) v = some (MM n x w (s2 I a j v) L Q D) := a_set hs (Or.inl rfl) hj (by decide)
theorem m_isTold {j : Nat} (hs : shp[a]? = some (0, 19)) (hx : FrM0 I a c ho pa f) (hp : pa < 2 ^ 15) (hj : j < 2 ^ 31) : f_X7_isTold (MM n x w I L Q D) a (nI j) = some (bI (decide (1 ≤ j ∧ j ≤ 15 ∧ pa.testBit (j - 1) = true))) := by
  unfold f_X7_isTold
  rw [li1, li15, m_isIn hj (by decide) (by decide), Option.bind_some]
  by_cases h1 : 1 ≤ j ∧ j ≤ 15
  · rw [if_neg (fun e => by rw [bI_0] at e; simp at e; omega), li2, m_at hs (by decide), Option.bind_some, hx.2.2.1, pk_sub h1.1, hasN (by omega) (by omega), Option.bind_some, ite_bI]
    by_cases h2 : pa.testBit (j - 1) = true
    · rw [if_neg (fun e => by rw [bI_0] at e; simp [h2] at e), show decide (1 ≤ j ∧ j ≤ 15 ∧ pa.testBit (j - 1) = true) = true by simp [h1, h2]]; rfl
    · rw [if_pos (by rw [bI_0]; simp [h2]), show decide (1 ≤ j ∧ j ≤ 15 ∧ pa.testBit (j - 1) = true) = false by simp [h2]]; rfl
  · rw [if_pos (by rw [bI_0]; simp; omega), show decide (1 ≤ j ∧ j ≤ 15 ∧ pa.testBit (j - 1) = true) = false by simp; omega]; rfl
theorem m_isToldN {q : Int32} (hq : q < 0) : f_X7_isTold (MM n x w I L Q D) a q = some 0 := by
  unfold f_X7_isTold
  rw [li1, m_isInN hq (by decide), Option.bind_some, if_pos rfl]
theorem m_shl {p : Nat} (h1 : 1 ≤ p) (h2 : p ≤ 31) : (nI 1) <<< ((nI p - nI 1) &&& 31) = nI (2 ^ (p - 1)) := by
  rw [pk_sub h1]
  exact sh1 _ (by omega)
theorem m_pins_l {e : Nat} (hs : shp[a]? = some (0, 19)) (hx : FrM0 I a c ho pa f) (hw : WF c ho pa f) (he : e < 2 ^ 31) : ∀ (j u fu : Nat), u + j = 15 → j < fu → f_X7_pins_4 fu a (nI e) (nI (pinM f e u)) (nI (u + 1)) (MM n x w I L Q D) = some (nI (pinM f e 15)) := by
  intro j
  induction j with
  | zero =>
    intro u fu hu hfu
    obtain ⟨fu, rfl⟩ : ∃ n9, fu = n9 + 1 := ⟨fu - 1, by omega⟩
    obtain rfl : u = 15 := by omega
    rw [f_X7_pins_4, if_pos (by decide)]
  | succ j ih =>
    intro u fu hu hfu
    obtain ⟨fu, rfl⟩ : ∃ n9, fu = n9 + 1 := ⟨fu - 1, by omega⟩
    have hst := ih (u + 1) fu (by omega) (by omega)
    have hd := hw.f18 (d := u + 1) (by omega)
    rw [f_X7_pins_4, li15, if_neg (nI_nlt (by omega) (by omega)), m_isTold hs hx hw.2.2.1 (by omega), Option.bind_some, li3, nI_add, m_at hs (by omega), hx.2.2.2 _ (by omega), li1, nI_add]
    simp only [ob_s]
    rw [pinM] at hst
    by_cases h1 : u + 1 = e
    · rw [if_neg (fun q => q.2 h1)] at hst
      have h1' : nI (u + 1) = nI e := by rw [h1]
      rw [if_pos h1']
      exact hst
    · have h1' : ¬ nI (u + 1) = nI e := fun q => h1 ((nI_eq (by omega) he).mp q)
      rw [if_neg h1']
      by_cases h0 : f (u + 1) = 0
      · rw [if_neg (fun q => q.1 h0)] at hst
        have h0' : nI (f (u + 1)) ≤ 0 := by rw [h0]; decide
        rw [if_pos h0']
        by_cases h2 : bI (decide (1 ≤ u + 1 ∧ u + 1 ≤ 15 ∧ pa.testBit (u + 1 - 1) = true)) = 0
        · rw [if_pos h2]
          exact hst
        · rw [if_neg h2]
          exact hst
      · rw [if_pos ⟨h0, h1⟩] at hst
        have ht : pa.testBit u = true := by
          rcases hw.2.2.2.2.1 (u + 1) (by omega) with q | q
          · exact absurd q h0
          · exact q.2.1
        have h2 : ¬ bI (decide (1 ≤ u + 1 ∧ u + 1 ≤ 15 ∧ pa.testBit (u + 1 - 1) = true)) = 0 := by
          rw [bI_0]
          simp [ht]
          omega
        rw [if_neg h2, if_neg (nI_nle (by omega) (by omega)), m_shl (by omega) (by omega), nI_add, m_shl (by omega) (by omega), fa_or, fa_or]
        exact hst
theorem m_pins {e : Nat} (hs : shp[a]? = some (0, 19)) (hx : FrM0 I a c ho pa f) (hw : WF c ho pa f) (he : e < 2 ^ 31) : f_X7_pins (MM n x w I L Q D) a (nI e) = some (nI (pinM f e 15)) := by
  unfold f_X7_pins
  exact m_pins_l hs hx hw he 15 0 4096 (by decide) (by decide)
theorem m_mayPin {d p : Nat} (hs : shp[a]? = some (0, 19)) (hx : FrM0 I a c ho pa f) (hw : WF c ho pa f) (hd : d ≤ 15) (h1 : 1 ≤ p) (h2 : p + d ≤ 18) : (pinFree ho f d p → f_X7_mayPin (MM n x w I L Q D) a (nI d) (nI p) = some 1) ∧ (¬ pinFree ho f d p → f_X7_mayPin (MM n x w I L Q D) a (nI d) (nI p) = some 0) := by
  have hh := hw.ho18
  have hpm := pinM_lt (f := f) d 15 (fun d hd => hw.f18 (by omega))
  have h6 := and2 (m := ho ||| pinM f d 15) (i := p - 1) (j := p + d - 1) (Nat.lt_of_lt_of_le (Nat.or_lt_two_pow hh hpm) (by decide)) (by omega) (by omega)
  unfold f_X7_mayPin
  rw [li1, m_at hs (by decide), Option.bind_some, hx.2.1, m_pins hs hx hw (by omega), Option.bind_some, nI_add, m_shl h1 (by omega), m_shl (by omega) (by omega), fa_or ho]
  refine ⟨fun q => ?_, fun q => ?_⟩
  · rw [if_pos (h6.mpr q)]
  · rw [if_neg (fun e => q (h6.mp e))]
/-- 19 ints are copied -/
theorem m_copy_l {b o o2 la lb : Nat} (ha : shp[a]? = some (0, la)) (hb : shp[b]? = some (0, lb)) (hla : o + 19 ≤ la) (hlb : o2 + 19 ≤ lb) (h1 : la < 2 ^ 31) (h2 : lb < 2 ^ 31) (hab : a ≠ b) : ∀ (j u fu : Nat), u + j = 19 → j < fu → f_X7_copy_3 fu a (nI o) b (nI o2) (nI u) (MM n x w (u1 I b (fb_put (I b) (fun k => I a (o + k)) o2 u)) L Q D) = some (MM n x w (u1 I b (fb_put (I b) (fun k => I a (o + k)) o2 19)) L Q D) := by
  intro j
  induction j with
  | zero =>
    intro u fu hu hfu
    obtain ⟨fu, rfl⟩ : ∃ n9, fu = n9 + 1 := ⟨fu - 1, by omega⟩
    obtain rfl : u = 19 := by omega
    rw [f_X7_copy_3, if_pos (by decide)]
  | succ j ih =>
    intro u fu hu hfu
    obtain ⟨fu, rfl⟩ : ∃ n9, fu = n9 + 1 := ⟨fu - 1, by omega⟩
    rw [f_X7_copy_3, li19, if_neg (nI_ge (by omega) (by decide)), nI_add, nI_add, a_at ha (Or.inl rfl) (by omega) h1, Option.bind_some, a_set hb (Or.inl rfl) (by omega) h2, Option.bind_some, s2_u1, u1_n hab, li1, nI_add]
    rw [show upd (fb_put (I b) (fun k => I a (o + k)) o2 u) (o2 + u) (I a (o + u)) = fb_put (I b) (fun k => I a (o + k)) o2 (u + 1) from fb_put_succ (I b) (fun k => I a (o + k)) o2 u]
    exact ih (u + 1) fu (by omega) (by omega)
theorem m_copy {b o o2 la lb : Nat} (ha : shp[a]? = some (0, la)) (hb : shp[b]? = some (0, lb)) (hla : o + 19 ≤ la) (hlb : o2 + 19 ≤ lb) (h1 : la < 2 ^ 31) (h2 : lb < 2 ^ 31) (hab : a ≠ b) : f_X7_copy (MM n x w I L Q D) a (nI o) b (nI o2) = some (MM n x w (u1 I b (fb_put (I b) (fun k => I a (o + k)) o2 19)) L Q D) := by
  unfold f_X7_copy
  have := m_copy_l (n := n) (x := x) (w := w) (I := I) (L := L) (Q := Q) (D := D) ha hb hla hlb h1 h2 hab 19 0 4096 (by decide) (by decide)
  rw [fb_put_0, u1_same] at this
  exact this
/-- evenness -/
theorem m_isEven_d {A B : Nat} (hs : shp[a]? = some (0, 19)) (hx : FrM0 I a c ho pa f) (hp : pa < 2 ^ 15) (hA : A < 600) (hB : B < 2 ^ 20) : ∀ (j u fu : Nat), u + j = 15 → j < fu → f_X7_isEven_48 fu a (nI A - nI (smN pa u)) (nI B) (nI (u + 1)) (MM n x w I L Q D) = some (if B = 2 * pc pa ∧ (A + smN pa 15) % 2 = 0 then 1 else 0) := by
  have p2 := pcN_le 18 pa
  have l2 := smN_le pa 15
  have e2 : pc pa = pcN 18 pa := rfl
  intro j
  induction j with
  | zero =>
    intro u fu hu hfu
    obtain ⟨fu, rfl⟩ : ∃ n9, fu = n9 + 1 := ⟨fu - 1, by omega⟩
    obtain rfl : u = 15 := by omega
    rw [f_X7_isEven_48, if_pos (by decide), li2, m_at hs (by decide), Option.bind_some, hx.2.2.1, bitsN (by omega), Option.bind_some, pk_mul]
    by_cases q : B = 2 * pc pa
    · rw [if_pos (show nI B = nI (2 * pc pa) by rw [q])]
      by_cases q2 : (A + smN pa 15) % 2 = 0
      · rw [if_pos ((evI hA (by omega)).mpr q2), if_pos ⟨q, q2⟩]
      · rw [if_neg (fun e => q2 ((evI hA (by omega)).mp e)), if_neg (fun e => q2 e.2)]
    · rw [if_neg (fun e => q ((nI_eq (by omega) (by omega)).mp e)), if_neg (fun e => q e.1)]
  | succ j ih =>
    intro u fu hu hfu
    obtain ⟨fu, rfl⟩ : ∃ n9, fu = n9 + 1 := ⟨fu - 1, by omega⟩
    have hst := ih (u + 1) fu (by omega) (by omega)
    rw [f_X7_isEven_48, li15, if_neg (nI_nlt (by omega) (by omega)), m_isTold hs hx hp (by omega), Option.bind_some]
    rw [smN] at hst
    by_cases h0 : pa.testBit u = true
    · rw [if_pos h0] at hst
      have h2 : ¬ bI (decide (1 ≤ u + 1 ∧ u + 1 ≤ 15 ∧ pa.testBit (u + 1 - 1) = true)) = 0 := by
        rw [bI_0]
        simp [h0]
        omega
      rw [if_neg h2, li1, nI_add]
      rw [← nI_add, sub3] at hst
      exact hst
    · rw [if_neg h0] at hst
      have h2 : bI (decide (1 ≤ u + 1 ∧ u + 1 ≤ 15 ∧ pa.testBit (u + 1 - 1) = true)) = 0 := by
        rw [bI_0]
        simp [h0]
      rw [if_pos h2, li1, nI_add]
      exact hst
theorem m_isEven_p (hs : shp[a]? = some (0, 19)) (hx : FrM0 I a c ho pa f) (hw : WF c ho pa f) : ∀ (j u fu : Nat), u + j = c → j < fu → f_X7_isEven_7 fu a (nI (smN (plM c ho) u)) (nI (pcN u (plM c ho))) (nI (u + 1)) (MM n x w I L Q D) = some (if evF c ho pa = true then 1 else 0) := by
  have hc := hw.1
  have hpl := plM_lt hw.2.1
  intro j
  induction j with
  | zero =>
    intro u fu hu hfu
    obtain ⟨fu, rfl⟩ : ∃ n9, fu = n9 + 1 := ⟨fu - 1, by omega⟩
    obtain rfl : u = c := by omega
    have l1 := smN_le (plM u ho) u
    have l3 : u * u ≤ 18 * 18 := Nat.mul_le_mul hc hc
    have pl := pcN_le u (plM u ho)
    rw [f_X7_isEven_7, li0, m_at hs (by decide), Option.bind_some, hx.1, if_pos (nI_lt (by omega) (by omega))]
    have := m_isEven_d (n := n) (x := x) (w := w) (L := L) (Q := Q) (D := D) hs hx hw.2.2.1 (A := smN (plM u ho) u) (B := pcN u (plM u ho)) (by omega) (by omega) 15 0 4096 (by decide) (by decide)
    rw [show nI (smN (plM u ho) u) - nI (smN pa 0) = nI (smN (plM u ho) u) from Int32.sub_zero _] at this
    rw [li1]
    refine this.trans ?_
    have e1 : smN (plM u ho) 18 = smN (plM u ho) u := by rw [show 18 = u + (18 - u) by omega]; exact smN_up hpl _
    have e2 : smN pa 18 = smN pa 15 := smN_up hw.2.2.1 3
    have e3 : pc (plM u ho) = pcN u (plM u ho) := by
      unfold pc
      rw [show 18 = u + (18 - u) by omega, pcN_split, Nat.div_eq_of_lt hpl, pcN_0, Nat.add_zero]
    unfold evF
    rw [e1, e2, e3]
    by_cases q : pcN u (plM u ho) = 2 * pc pa ∧ (smN (plM u ho) u + smN pa 15) % 2 = 0
    · rw [if_pos q, if_pos (by simp [q])]; rfl
    · rw [if_neg q, if_neg (by simpa using q)]; rfl
  | succ j ih =>
    intro u fu hu hfu
    obtain ⟨fu, rfl⟩ : ∃ n9, fu = n9 + 1 := ⟨fu - 1, by omega⟩
    have hst := ih (u + 1) fu (by omega) (by omega)
    have hh := hw.ho18
    rw [f_X7_isEven_7, li0, m_at hs (by decide), Option.bind_some, hx.1, if_neg (nI_nlt (by omega) (by omega)), li1, m_at hs (by decide), Option.bind_some, hx.2.1, pk_sub (by omega), hasN (by omega) (by omega), Option.bind_some, show u + 1 - 1 = u by omega, nI_add, nI_add, nI_add]
    have hb : (plM c ho).testBit u = !ho.testBit u := by rw [plM_bit]; simp [show u < c by omega]
    have hp1 : pcN (u + 1) (plM c ho) = pcN u (plM c ho) + if (plM c ho).testBit u = true then 1 else 0 := by rw [pcN_ct, pcN_ct, fb_ct_succ]
    rw [smN, hp1] at hst
    by_cases h0 : ho.testBit u = true
    · rw [hb, h0] at hst
      rw [h0, if_pos rfl, if_neg (show ¬ (1 : Int32) = nI 0 by decide)]
      exact hst
    · have h0' : ho.testBit u = false := by simpa using h0
      rw [hb, h0'] at hst
      rw [h0']
      simp only [Bool.false_eq_true, if_false]
      rw [if_pos (show (0 : Int32) = nI 0 from rfl)]
      exact hst
theorem m_isEven (hs : shp[a]? = some (0, 19)) (hx : FrM0 I a c ho pa f) (hw : WF c ho pa f) (a0 : Nat) : f_X7_isEven (MM n x w I L Q D) a0 a = some (if evF c ho pa = true then 1 else 0) := by
  unfold f_X7_isEven
  have hc := hw.1
  exact m_isEven_p hs hx hw c 0 4096 (by omega) (by omega)
end FRM
