/-! a frame, further: evenness, what is set, copies -/
theorem ob_s {α β : Type} {a : α} {f : α → Option β} : (some a).bind f = f a := (Option.bind_some a f).trans rfl
theorem s2_e {x : Nat → Nat → Int32} {a k : Nat} {v : Int32} : s2 x a k v a k = v := by rw [s2_at, if_pos ⟨rfl, rfl⟩]
def NO : Int32 := -1
theorem liN : (-1 : Int32) = NO := rfl
theorem nandN (A B : Nat) : nI A &&& (nI B ^^^ NO) = nI (A ^^^ (A &&& B)) := by
  apply Int32.toBitVec_inj.mp
  show BitVec.ofNat 32 A &&& (BitVec.ofNat 32 B ^^^ NO.toBitVec) = BitVec.ofNat 32 (A ^^^ (A &&& B))
  have h1 : NO.toBitVec = BitVec.allOnes 32 := rfl
  rw [h1]
  apply BitVec.eq_of_getLsbD_eq
  intro i hi
  rw [BitVec.getLsbD_and, BitVec.getLsbD_xor, BitVec.getLsbD_allOnes, BitVec.getLsbD_ofNat, BitVec.getLsbD_ofNat, BitVec.getLsbD_ofNat, Nat.testBit_xor, Nat.testBit_and]
  cases A.testBit i <;> cases B.testBit i <;> simp [hi]
theorem and2 {m i j : Nat} (hm : m < 2 ^ 31) (hi : i < 31) (hj : j < 31) : nI m &&& (nI (2 ^ i) ||| nI (2 ^ j)) = 0 ↔ m.testBit i = false ∧ m.testBit j = false := by
  rw [fa_or, fa_and, show (0 : Int32) = nI 0 from rfl, nI_eq (Nat.lt_of_le_of_lt Nat.and_le_left hm) (by decide), Nat.and_or_distrib_left, Nat.or_eq_zero_iff, fb_bit_nat, fb_bit_nat]
/-- the places to fill -/
def plM (c ho : Nat) : Nat := (2 ^ c - 1) ^^^ ho
theorem plM_bit {c ho i : Nat} : (plM c ho).testBit i = (decide (i < c) ^^ ho.testBit i) := by
  unfold plM
  rw [Nat.testBit_xor, Nat.testBit_two_pow_sub_one]
theorem plM_lt {c ho : Nat} (hh : ho < 2 ^ c) : plM c ho < 2 ^ c := Nat.xor_lt_two_pow (by have := Nat.two_pow_pos c; omega) hh
theorem sub_mask {c ho : Nat} (hh : ho < 2 ^ c) : (2 ^ c - 1) &&& ho = ho := by
  apply Nat.eq_of_testBit_eq
  intro i
  rw [Nat.testBit_and, Nat.testBit_two_pow_sub_one]
  by_cases h : i < c
  · simp [h]
  · have : ho.testBit i = false := Nat.testBit_lt_two_pow (Nat.lt_of_lt_of_le hh (Nat.pow_le_pow_right (by decide) (by omega)))
    simp [this]
theorem shc : ∀ c, c ≤ 18 → (1 : Int32) <<< (nI c &&& 31) = nI (2 ^ c) := by decide +kernel
theorem two18 {c : Nat} (hc : c ≤ 18) : 2 ^ c ≤ 2 ^ 18 := Nat.pow_le_pow_right (by decide) hc
def smN (m : Nat) : Nat → Nat
  | 0 => 0
  | k + 1 => smN m k + if m.testBit k = true then k + 1 else 0
theorem smN_le (m : Nat) : ∀ k, smN m k ≤ k * k
  | 0 => Nat.le_refl _
  | k + 1 => by
    have := smN_le m k
    have h2 : (k + 1) * (k + 1) = k * k + 2 * k + 1 := by rw [Nat.add_mul, Nat.mul_add]; omega
    rw [smN]
    split <;> omega
theorem smN_up {m c : Nat} (hm : m < 2 ^ c) : ∀ k, smN m (c + k) = smN m c
  | 0 => rfl
  | k + 1 => by
    rw [← Nat.add_assoc, smN, smN_up hm k, Nat.testBit_lt_two_pow (Nat.lt_of_lt_of_le hm (Nat.pow_le_pow_right (by decide) (by omega)))]
    rfl
theorem evk : ∀ k, k < 1000 → ((nI k - nI 400) - (nI k - nI 400) / nI 2 * nI 2 = nI 0 ↔ k % 2 = 0) := by decide +kernel
theorem sub_shift {a b : Nat} (hb : b ≤ 400) : nI a - nI b = nI (a + 400 - b) - nI 400 := by
  have h1 : nI (a + 400 - b) + nI b = nI a + nI 400 := by rw [nI_add, nI_add]; congr 1; omega
  have h2 : nI (a + 400 - b) = nI a + nI 400 - nI b := by rw [← h1, Int32.add_sub_cancel]
  rw [h2, Int32.sub_eq_add_neg, Int32.sub_eq_add_neg, Int32.sub_eq_add_neg, Int32.add_assoc, Int32.add_assoc, Int32.add_comm (nI 400), Int32.add_assoc, Int32.add_left_neg, Int32.add_zero]
theorem evI {a b : Nat} (ha : a < 600) (hb : b ≤ 400) : (nI a - nI b) - (nI a - nI b) / nI 2 * nI 2 = 0 ↔ (a + b) % 2 = 0 := by
  rw [sub_shift hb, li0, evk _ (by omega)]
  omega
def evF (c ho pa : Nat) : Bool := (pc (plM c ho) == 2 * pc pa) && ((smN (plM c ho) 18 + smN pa 18) % 2 == 0)
section FRD
variable {n : Nat} {x : Nat → Nat → Int32} {w : Int64} {I : Nat → Nat → Int32} {L : Nat → Nat → Int64} {Q : Nat → Nat → Option Nat} {D : Nat → Bool} {a c ho pa : Nat} {f : Nat → Nat}
theorem c_pinnedPlaces0 (hF : isF D a) (hx : FrC x I a c ho pa f) (hf : ∀ d, d < 16 → f d + d ≤ 18 ∨ f d = 0) : f_X2_pinnedPlaces (MM n x w I L Q D) a 0 = some (nI (pinM f 0 15)) := c_pinnedPlaces (e := 0) hF hx hf (by decide)
theorem c_sumOf_l {h : Hp} {m : Nat} : ∀ (j u fu : Nat), u + j = 18 → j < fu → f_X2_sumOf_4 fu (nI m) (nI (smN m u)) (nI (u + 1)) h = some (nI (smN m 18)) := by
  intro j
  induction j with
  | zero =>
    intro u fu hu hfu
    obtain ⟨fu, rfl⟩ : ∃ n9, fu = n9 + 1 := ⟨fu - 1, by omega⟩
    obtain rfl : u = 18 := by omega
    rw [f_X2_sumOf_4, if_pos (by decide)]
  | succ j ih =>
    intro u fu hu hfu
    obtain ⟨fu, rfl⟩ : ∃ n9, fu = n9 + 1 := ⟨fu - 1, by omega⟩
    have hs := ih (u + 1) fu (by omega) (by omega)
    rw [f_X2_sumOf_4, li18, if_neg (nI_nlt (by omega) (by omega)), bitN (by omega) (by omega), Option.bind_some, li1, nI_add]
    rw [smN] at hs
    have hb := fa_bit (n := m) (j := u) (by omega)
    by_cases h0 : m.testBit u = true
    · rw [if_pos h0] at hs
      rw [show u + 1 - 1 = u by omega, if_neg (fun e => by rw [hb.mp e] at h0; cases h0), nI_add]
      exact hs
    · rw [if_neg h0] at hs
      rw [show u + 1 - 1 = u by omega, if_pos (hb.mpr (by simpa using h0))]
      exact hs
theorem c_sumOf {h : Hp} {m : Nat} : f_X2_sumOf h (nI m) = some (nI (smN m 18)) := by
  unfold f_X2_sumOf
  exact c_sumOf_l 18 0 4096 (by decide) (by decide)
theorem c_places (hF : isF D a) (hx : FrC x I a c ho pa f) (hc : c ≤ 18) (hh : ho < 2 ^ c) : f_X2_placesToFill (MM n x w I L Q D) a = some (nI (plM c ho)) := by
  unfold f_X2_placesToFill
  have h1 := Nat.two_pow_pos c
  rw [liN, F_g0 hF, hx.1, Option.bind_some, F_g1 hF, hx.2.1, Option.bind_some, shc c hc, li1, pk_sub (by omega), nandN, sub_mask hh]
  rfl
theorem c_isEven (hF : isF D a) (hx : FrC x I a c ho pa f) (hc : c ≤ 18) (hh : ho < 2 ^ c) (hp : pa < 2 ^ 15) : f_X2_isEven (MM n x w I L Q D) a = some (if evF c ho pa = true then 1 else 0) := by
  have h18 := two18 hc
  have hpl := plM_lt hh
  have l1 := smN_le (plM c ho) 18
  have l2 := smN_le pa 18
  have p1 := pcN_le 18 (plM c ho)
  have p2 := pcN_le 18 pa
  unfold f_X2_isEven
  rw [F_o hF, if_pos rfl, c_places hF hx hc hh, Option.bind_some, bcN (by omega), Option.bind_some, F_g2 hF, hx.2.2.1, Option.bind_some, bcN (by omega), Option.bind_some, li2, pk_mul]
  unfold evF
  have e1 : pc (plM c ho) = pcN 18 (plM c ho) := rfl
  have e2 : pc pa = pcN 18 pa := rfl
  by_cases q : pc (plM c ho) = 2 * pc pa
  · rw [if_pos (by rw [q]), c_sumOf, Option.bind_some, Option.bind_some, c_sumOf, Option.bind_some]
    by_cases q2 : (smN (plM c ho) 18 + smN pa 18) % 2 = 0
    · rw [if_pos ((evI (by omega) (by omega)).mpr q2), if_pos (by simp [q, q2])]
    · rw [if_neg (fun e => q2 ((evI (by omega) (by omega)).mp e)), if_neg (by simp [q, q2])]
  · rw [if_neg (fun e => q ((nI_eq (by omega) (by omega)).mp e)), if_neg (by simp [q])]
/-- the distance of a pair by its index, from a distance on -/
def dst (pa k : Nat) : Nat → Nat → Nat → Option Nat
  | 0, _, _ => none
  | j + 1, u, i => if pa.testBit u = true then (if i = k then some (u + 1) else dst pa k j (u + 1) (i + 1)) else dst pa k j (u + 1) i
theorem c_distanceOf_l {k : Nat} (hF : isF D a) (hx : FrC x I a c ho pa f) (hk : k < 2 ^ 31) : ∀ (j u fu i : Nat), u + j = 15 → j < fu → i ≤ u → f_X2_distanceOf_4 fu a (nI k) (nI i) (nI (u + 1)) (MM n x w I L Q D) = some (match dst pa k j u i with | some d => nI d | none => NO) := by
  intro j
  induction j with
  | zero =>
    intro u fu i hu hfu hi
    obtain ⟨fu, rfl⟩ : ∃ n9, fu = n9 + 1 := ⟨fu - 1, by omega⟩
    obtain rfl : u = 15 := by omega
    rw [f_X2_distanceOf_4, if_pos (by decide)]
    rfl
  | succ j ih =>
    intro u fu i hu hfu hi
    obtain ⟨fu, rfl⟩ : ∃ n9, fu = n9 + 1 := ⟨fu - 1, by omega⟩
    rw [f_X2_distanceOf_4, li15, if_neg (nI_nlt (by omega) (by omega)), F_o hF, if_pos rfl, c_hasPair hF hx (by omega), Option.bind_some, li1, nI_add, nI_add, show u + 1 - 1 = u by omega, dst]
    by_cases h0 : pa.testBit u = true
    · have hq : 1 ≤ u + 1 ∧ u + 1 ≤ 15 ∧ pa.testBit u = true := ⟨by omega, by omega, h0⟩
      rw [if_pos hq, if_neg (show ¬ nI 1 = 0 by decide), if_pos h0]
      by_cases h1 : i = k
      · rw [if_pos (by rw [h1]), if_pos h1]
      · rw [if_neg (fun e => h1 ((nI_eq (by omega) hk).mp e)), if_neg h1]
        exact ih (u + 1) fu (i + 1) (by omega) (by omega) (by omega)
    · have hq : ¬ (1 ≤ u + 1 ∧ u + 1 ≤ 15 ∧ pa.testBit u = true) := fun e => h0 e.2.2
      rw [if_neg hq, if_pos (rfl : (0 : Int32) = 0), if_neg h0]
      exact ih (u + 1) fu i (by omega) (by omega) (by omega)
theorem c_distanceOf {k : Nat} (hF : isF D a) (hx : FrC x I a c ho pa f) (hk : k < 2 ^ 31) : f_X2_distanceOf (MM n x w I L Q D) a (nI k) = some (match dst pa k 15 0 0 with | some d => nI d | none => NO) := by
  unfold f_X2_distanceOf
  exact c_distanceOf_l hF hx hk 15 0 4096 0 (by decide) (by decide) (by decide)
/-- a hole is set or taken away -/
def okH (c ho : Nat) (f : Nat → Nat) (p : Nat) (b : Bool) : Prop := (1 ≤ p ∧ p ≤ c) ∧ ho.testBit (p - 1) ≠ b ∧ (pinM f 0 15).testBit (p - 1) = false
def bI (b : Bool) : Int32 := if b = true then 1 else 0
theorem bI_eq {b e : Bool} : bI b = bI e ↔ b = e := by cases b <;> cases e <;> decide
theorem ite_bI {p : Prop} {i9 : Decidable p} : (@ite _ p i9 (1 : Int32) 0) = bI (@decide p i9) := by unfold bI; by_cases h : p <;> simp [h]
theorem c_setHole {p : Nat} {b : Bool} (hF : isF D a) (hx : FrC x I a c ho pa f) (hw : WF c ho pa f) (hp : p < 2 ^ 31) : (okH c ho f p b → f_X2_setHole (MM n x w I L Q D) a (nI p) (bI b) = some (nI (pc (ho ^^^ 2 ^ (p - 1))), MM n (s2 x a 1 (nI (ho ^^^ 2 ^ (p - 1)))) w I L Q D)) ∧ (¬ okH c ho f p b → f_X2_setHole (MM n x w I L Q D) a (nI p) (bI b) = some (NO, (MM n x w I L Q D))) := by
  have h18 := two18 hw.1
  have hh := hw.ho18
  have hf18 : ∀ d, d < 16 → f d + d ≤ 18 ∨ f d = 0 := fun d hd => hw.f18 hd
  have hpm := pinM_lt (f := f) 0 15 (fun d hd => hw.f18 (by omega))
  unfold f_X2_setHole
  rw [liN, F_o hF, if_pos rfl, c_hasPlace hF hx.1 hw.1 hp]
  by_cases h1 : 1 ≤ p ∧ p ≤ c
  · have h1c := hw.1
    rw [if_pos h1, Option.bind_some, if_neg (by decide), if_pos rfl, c_hasHole hF hx hw.1 (by omega) hp, Option.bind_some, if_pos rfl, c_pinnedPlaces0 hF hx hf18, Option.bind_some, bitN (by omega) (by omega), Option.bind_some]
    rw [ite_bI, show (decide (1 ≤ p ∧ p ≤ c ∧ ho.testBit (p - 1) = true)) = ho.testBit (p - 1) by simp [h1]]
    have hb := fa_bit (n := pinM f 0 15) (j := p - 1) (by omega)
    have hlt : ho ^^^ 2 ^ (p - 1) < 2 ^ 18 := Nat.xor_lt_two_pow hh (Nat.pow_lt_pow_right (by decide) (by omega))
    refine ⟨fun ⟨_, h2, h3⟩ => ?_, fun q => ?_⟩
    · rw [if_neg (fun e => h2 (bI_eq.mp e)), if_pos (hb.mpr h3), F_g1 hF, hx.2.1, Option.bind_some, Option.bind_some, fb_xorI, F_s1 hF, Option.bind_some, F_g1 hF, Option.bind_some]
      rw [s2_e, bcN hlt, Option.bind_some]
    · by_cases h2 : ho.testBit (p - 1) = b
      · rw [if_pos (bI_eq.mpr h2)]
      · rw [if_neg (fun e => h2 (bI_eq.mp e)), if_neg (fun e => q ⟨h1, h2, hb.mp e⟩)]
  · rw [if_neg h1, Option.bind_some, if_pos rfl]
    exact ⟨fun q => absurd q.1 h1, fun _ => rfl⟩
theorem c_setHoleN {q : Int32} {b : Int32} (hF : isF D a) (hq : q < 0) : f_X2_setHole (MM n x w I L Q D) a q b = some (NO, (MM n x w I L Q D)) := by
  unfold f_X2_setHole
  rw [liN, F_o hF, if_pos rfl, c_hasPlaceN hq, Option.bind_some, if_pos rfl]
/-- a pair is told or taken away -/
def okP (pa d : Nat) (b : Bool) : Prop := (1 ≤ d ∧ d ≤ 15) ∧ pa.testBit (d - 1) ≠ b ∧ (b = true → pc pa < 9)
theorem c_setPair {d : Nat} {b : Bool} (hF : isF D a) (hx : FrC x I a c ho pa f) (hw : WF c ho pa f) (hd : d < 2 ^ 31) : (okP pa d b → f_X2_setPair (MM n x w I L Q D) a (nI d) (bI b) = some (nI (pc (pa ^^^ 2 ^ (d - 1))), MM n (s2 x a 2 (nI (pa ^^^ 2 ^ (d - 1)))) w (s2 I (a + 1) d 0) L Q D)) ∧ (¬ okP pa d b → f_X2_setPair (MM n x w I L Q D) a (nI d) (bI b) = some (NO, (MM n x w I L Q D))) := by
  have hp := hw.2.2.1
  have p2 := pcN_le 18 pa
  unfold f_X2_setPair
  rw [liN]
  by_cases h1 : 1 ≤ d ∧ d ≤ 15
  · have hlt : pa ^^^ 2 ^ (d - 1) < 2 ^ 15 := Nat.xor_lt_two_pow hp (Nat.pow_lt_pow_right (by decide) (by omega))
    rw [li1, if_neg (nI_nlt h1.1 (by omega)), li15, if_neg (nI_nlt h1.2 (by omega)), F_o hF, if_pos rfl, c_hasPair hF hx hd, Option.bind_some]
    rw [ite_bI, show (decide (1 ≤ d ∧ d ≤ 15 ∧ pa.testBit (d - 1) = true)) = pa.testBit (d - 1) by simp [h1]]
    rw [F_g2 hF, hx.2.2.1]
    simp only [ob_s]
    rw [bitN (by omega) (by omega), bcN (by omega)]
    simp only [ob_s]
    rw [fb_xorI, F_s2 hF]
    simp only [ob_s]
    rw [F_r hF]
    simp only [ob_s]
    rw [F_as hF (by omega)]
    simp only [ob_s]
    rw [F_g2 hF, s2_e]
    simp only [ob_s]
    rw [bcN (by omega)]
    simp only [ob_s]
    have e2 : pc pa = pcN 18 pa := rfl
    cases b with
    | false =>
      rw [if_pos (show bI false = 0 from rfl)]
      refine ⟨fun ⟨_, h2, _⟩ => ?_, fun q => ?_⟩
      · rw [if_neg (fun e => h2 (bI_eq.mp e))]
      · rw [if_pos (bI_eq.mpr (Classical.byContradiction fun e => q ⟨h1, e, fun z => by cases z⟩))]
    | true =>
      rw [if_neg (show ¬ bI true = 0 by decide)]
      refine ⟨fun ⟨_, h2, h3⟩ => ?_, fun q => ?_⟩
      · rw [if_neg (fun e => h2 (bI_eq.mp e)), li9, if_pos (nI_lt (h3 rfl) (by decide))]
      · by_cases h2 : pa.testBit (d - 1) = true
        · rw [if_pos (bI_eq.mpr h2)]
        · rw [if_neg (fun e => h2 (bI_eq.mp e)), li9, if_neg (nI_nlt (Nat.not_lt.mp fun e => q ⟨h1, h2, fun _ => e⟩) (by omega))]
  · by_cases h2 : d < 1
    · rw [li1, if_pos (nI_lt h2 (by omega))]
      exact ⟨fun q => absurd q.1 h1, fun _ => rfl⟩
    · rw [li1, if_neg (nI_nlt (by omega) (by omega)), li15, if_pos (nI_lt (by omega) (by omega))]
      exact ⟨fun q => absurd q.1 h1, fun _ => rfl⟩
theorem c_setPairN {q : Int32} {b : Int32} (hq : q < 0) : f_X2_setPair (MM n x w I L Q D) a q b = some (NO, (MM n x w I L Q D)) := by
  unfold f_X2_setPair
  rw [liN]
  rw [li1, if_pos (neg_lt hq (by decide))]
end FRD
