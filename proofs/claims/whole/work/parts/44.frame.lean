/-! A FRAME: cells, holes, pairs, pins as numbers; class and model hold it -/
theorem li0 : (0 : Int32) = nI 0 := rfl
theorem li1 : (1 : Int32) = nI 1 := rfl
theorem li2 : (2 : Int32) = nI 2 := rfl
theorem li3 : (3 : Int32) = nI 3 := rfl
theorem li4 : (4 : Int32) = nI 4 := rfl
theorem li5 : (5 : Int32) = nI 5 := rfl
theorem li6 : (6 : Int32) = nI 6 := rfl
theorem li7 : (7 : Int32) = nI 7 := rfl
theorem li8 : (8 : Int32) = nI 8 := rfl
theorem li9 : (9 : Int32) = nI 9 := rfl
theorem li10 : (10 : Int32) = nI 10 := rfl
theorem li15 : (15 : Int32) = nI 15 := rfl
theorem li16 : (16 : Int32) = nI 16 := rfl
theorem li18 : (18 : Int32) = nI 18 := rfl
theorem li19 : (19 : Int32) = nI 19 := rfl
theorem li20 : (20 : Int32) = nI 20 := rfl
theorem li24 : (24 : Int32) = nI 24 := rfl
theorem li31 : (31 : Int32) = nI 31 := rfl
theorem li48 : (48 : Int32) = nI 48 := rfl
theorem li57 : (57 : Int32) = nI 57 := rfl
theorem li59 : (59 : Int32) = nI 59 := rfl
theorem li60 : (60 : Int32) = nI 60 := rfl
theorem li96 : (96 : Int32) = nI 96 := rfl
theorem li97 : (97 : Int32) = nI 97 := rfl
theorem li122 : (122 : Int32) = nI 122 := rfl
theorem li133 : (133 : Int32) = nI 133 := rfl
theorem li255 : (255 : Int32) = nI 255 := rfl
theorem li300 : (300 : Int32) = nI 300 := rfl
theorem li340 : (340 : Int32) = nI 340 := rfl
/-- an int is below 0, or a number -/
theorem neg_or (q : Int32) : q < 0 ∨ ∃ j, j < 2 ^ 31 ∧ q = nI j := by
  by_cases h : q < 0
  · exact Or.inl h
  · exact Or.inr (nI_of h)
theorem neg_lt {q : Int32} {k : Nat} (h : q < 0) (hk : k < 2 ^ 31) : q < nI k := by
  rw [Int32.lt_iff_toInt_lt] at h ⊢
  rw [nI_toInt hk]
  have : (0 : Int32).toInt = 0 := rfl
  omega
theorem neg_nle {q : Int32} {k : Nat} (h : q < 0) (hk : k < 2 ^ 31) : ¬ nI k ≤ q := Int32.not_le.mpr (neg_lt h hk)
theorem neg_ne {q : Int32} {k : Nat} (h : q < 0) (hk : k < 2 ^ 31) : ¬ q = nI k := fun e => by
  have := neg_lt h hk
  rw [e] at this
  exact Int32.lt_irrefl this
/-- the places of what is pinned among the distances up to one, but one -/
def pinM (f : Nat → Nat) (e : Nat) : Nat → Nat
  | 0 => 0
  | d + 1 => if f (d + 1) ≠ 0 ∧ d + 1 ≠ e then pinM f e d ||| (2 ^ (f (d + 1) - 1) ||| 2 ^ (f (d + 1) + (d + 1) - 1)) else pinM f e d
/-- which are pinned -/
def pinD (f : Nat → Nat) : Nat → Nat
  | 0 => 0
  | d + 1 => if f (d + 1) ≠ 0 then pinD f d ||| 2 ^ d else pinD f d
def WF (c ho pa : Nat) (f : Nat → Nat) : Prop := c ≤ 18 ∧ ho < 2 ^ c ∧ pa < 2 ^ 15 ∧ pc pa ≤ 9 ∧
  (∀ d, d < 16 → f d = 0 ∨ (1 ≤ d ∧ pa.testBit (d - 1) = true ∧ 1 ≤ f d ∧ f d + d ≤ c ∧ ho.testBit (f d - 1) = false ∧ ho.testBit (f d + d - 1) = false)) ∧
  (∀ d e, d < 16 → e < 16 → d ≠ e → f d ≠ 0 → f e ≠ 0 → f d ≠ f e ∧ f d ≠ f e + e ∧ f d + d ≠ f e + e)
def FrC (x I : Nat → Nat → Int32) (a c ho pa : Nat) (f : Nat → Nat) : Prop := x a 0 = nI c ∧ x a 1 = nI ho ∧ x a 2 = nI pa ∧ ∀ d, d < 16 → I (a + 1) d = nI (f d)
def FrM (I : Nat → Nat → Int32) (a o c ho pa : Nat) (f : Nat → Nat) : Prop := I a o = nI c ∧ I a (o + 1) = nI ho ∧ I a (o + 2) = nI pa ∧ ∀ d, d < 16 → I a (o + 3 + d) = nI (f d)
theorem WF.f18 {c ho pa : Nat} {f : Nat → Nat} (h : WF c ho pa f) {d : Nat} (hd : d < 16) : f d + d ≤ 18 ∨ f d = 0 := by
  rcases h.2.2.2.2.1 d hd with e | ⟨e1, e2, e3, e4, -⟩
  · exact Or.inr e
  · have := h.1; omega
theorem WF.f0 {c ho pa : Nat} {f : Nat → Nat} (h : WF c ho pa f) : f 0 = 0 := by
  rcases h.2.2.2.2.1 0 (by decide) with e | ⟨e1, -⟩
  · exact e
  · omega
theorem WF.ho18 {c ho pa : Nat} {f : Nat → Nat} (h : WF c ho pa f) : ho < 2 ^ 18 := Nat.lt_of_lt_of_le h.2.1 (Nat.pow_le_pow_right (by decide) h.1)
theorem pinM_lt {f : Nat → Nat} (e : Nat) : ∀ k, (∀ d, d ≤ k → f d + d ≤ 18 ∨ f d = 0) → pinM f e k < 2 ^ 18
  | 0, _ => by rw [pinM]; decide
  | k + 1, h => by
    have ih := pinM_lt e k (fun d hd => h d (by omega))
    rw [pinM]
    split
    · rename_i q
      have h2 : ∀ j, j < 18 → 2 ^ j < 2 ^ 18 := by decide
      rcases h (k + 1) (Nat.le_refl _) with g | g
      · exact Nat.or_lt_two_pow ih (Nat.or_lt_two_pow (h2 _ (by omega)) (h2 _ (by omega)))
      · exact absurd g q.1
    · exact ih
section FRC
variable {n : Nat} {x : Nat → Nat → Int32} {w : Int64} {I : Nat → Nat → Int32} {L : Nat → Nat → Int64} {Q : Nat → Nat → Option Nat} {D : Nat → Bool} {a c ho pa : Nat} {f : Nat → Nat}
theorem c_hasPlace {j : Nat} (hF : isF D a) (hx : x a 0 = nI c) (hc : c ≤ 18) (hj : j < 2 ^ 31) : f_X2_hasPlace (MM n x w I L Q D) a (nI j) = some (if 1 ≤ j ∧ j ≤ c then 1 else 0) := by
  unfold f_X2_hasPlace
  rw [F_g0 hF, hx]
  simp (disch := omega) only [Option.bind_some, li0, li1, li2, li3, li4, li5, li6, li7, li8, li9, li10, li15, li16, li18, li19, li20, li24, li31, li48, li57, li59, li60, li96, li97, li122, li133, li255, li300, li340, nI_ltI, nI_leI, nI_eq, nI_add]
  by_cases h1 : j < 1
  · rw [if_pos h1, if_neg (by omega)]
  · rw [if_neg h1]
    by_cases h2 : c < j
    · rw [if_pos h2, if_neg (by omega)]
    · rw [if_neg h2, if_pos (by omega)]
theorem c_hasPlaceN {q : Int32} (hq : q < 0) : f_X2_hasPlace (MM n x w I L Q D) a q = some 0 := by
  unfold f_X2_hasPlace
  rw [li1, if_pos (neg_lt (k := 1) hq (by decide))]
theorem c_hasHole {j : Nat} (hF : isF D a) (hx : FrC x I a c ho pa f) (hc : c ≤ 18) (hh : ho < 2 ^ 31) (hj : j < 2 ^ 31) : f_X2_hasHole (MM n x w I L Q D) a (nI j) = some (if 1 ≤ j ∧ j ≤ c ∧ ho.testBit (j - 1) = true then 1 else 0) := by
  unfold f_X2_hasHole
  rw [F_o hF, if_pos rfl, c_hasPlace hF hx.1 hc hj]
  by_cases h1 : 1 ≤ j ∧ j ≤ c
  · rw [if_pos h1, Option.bind_some, if_neg (by decide), F_g1 hF, hx.2.1, Option.bind_some, bitN (by omega) (by omega), Option.bind_some]
    have := fa_bit (n := ho) (j := j - 1) (by omega)
    by_cases h2 : ho.testBit (j - 1) = true
    · rw [if_neg (fun e => by rw [this.mp e] at h2; cases h2), if_pos ⟨h1.1, h1.2, h2⟩]
    · rw [if_pos (this.mpr (by simpa using h2)), if_neg (fun e => h2 e.2.2)]
  · rw [if_neg h1, Option.bind_some, if_pos rfl, if_neg (fun e => h1 ⟨e.1, e.2.1⟩)]
theorem c_hasHoleN {q : Int32} (hF : isF D a) (hq : q < 0) : f_X2_hasHole (MM n x w I L Q D) a q = some 0 := by
  unfold f_X2_hasHole
  rw [F_o hF, if_pos rfl, c_hasPlaceN hq, Option.bind_some, if_pos rfl]
theorem c_hasPair {j : Nat} (hF : isF D a) (hx : FrC x I a c ho pa f) (hj : j < 2 ^ 31) : f_X2_hasPair (MM n x w I L Q D) a (nI j) = some (if 1 ≤ j ∧ j ≤ 15 ∧ pa.testBit (j - 1) = true then 1 else 0) := by
  unfold f_X2_hasPair
  rw [F_g2 hF, hx.2.2.1, Option.bind_some]
  simp (disch := omega) only [li15, li1, nI_ltI]
  by_cases h1 : j < 1
  · rw [if_pos h1, if_neg (by omega)]
  · rw [if_neg h1]
    by_cases h2 : 15 < j
    · rw [if_pos h2, if_neg (by omega)]
    · rw [if_neg h2, bitN (by omega) (by omega), Option.bind_some]
      have := fa_bit (n := pa) (j := j - 1) (by omega)
      by_cases h3 : pa.testBit (j - 1) = true
      · rw [if_neg (fun e => by rw [this.mp e] at h3; cases h3), if_pos ⟨by omega, by omega, h3⟩]
      · rw [if_pos (this.mpr (by simpa using h3)), if_neg (fun e => h3 e.2.2)]
theorem c_hasPairN {q : Int32} (hq : q < 0) : f_X2_hasPair (MM n x w I L Q D) a q = some 0 := by
  unfold f_X2_hasPair
  rw [li1, if_pos (neg_lt (k := 1) hq (by decide))]
theorem c_pinnedPairs_l (hF : isF D a) (hx : FrC x I a c ho pa f) (hf : ∀ d, d < 16 → f d < 2 ^ 31) : ∀ (j u fu : Nat), u + j = 15 → j < fu → f_X2_pinnedPairs_4 fu a (nI (pinD f u)) (nI (u + 1)) (MM n x w I L Q D) = some (nI (pinD f 15)) := by
  intro j
  induction j with
  | zero =>
    intro u fu hu hfu
    obtain ⟨fu, rfl⟩ : ∃ n9, fu = n9 + 1 := ⟨fu - 1, by omega⟩
    obtain rfl : u = 15 := by omega
    rw [f_X2_pinnedPairs_4, if_pos (by decide)]
  | succ j ih =>
    intro u fu hu hfu
    obtain ⟨fu, rfl⟩ : ∃ n9, fu = n9 + 1 := ⟨fu - 1, by omega⟩
    have hs := ih (u + 1) fu (by omega) (by omega)
    rw [f_X2_pinnedPairs_4, li15, if_neg (nI_nlt (by omega) (by omega)), F_r hF, Option.bind_some, F_a hF (by omega), Option.bind_some, hx.2.2.2 _ (by omega), li1, nI_add]
    rw [pinD] at hs
    by_cases h0 : f (u + 1) = 0
    · rw [if_neg (fun q => q h0)] at hs
      rw [h0, if_pos (show nI 0 = 0 from rfl)]
      exact hs
    · rw [if_pos h0] at hs
      rw [if_neg (nI_ne0 (by omega) (hf _ (by omega))), bitN (by omega) (by omega), Option.bind_some, fa_or]
      exact hs
theorem c_pinnedPairs (hF : isF D a) (hx : FrC x I a c ho pa f) (hf : ∀ d, d < 16 → f d < 2 ^ 31) : f_X2_pinnedPairs (MM n x w I L Q D) a = some (nI (pinD f 15)) := by
  unfold f_X2_pinnedPairs
  exact c_pinnedPairs_l hF hx hf 15 0 4096 (by decide) (by decide)
theorem c_pinnedPlaces_l {e : Nat} (hF : isF D a) (hx : FrC x I a c ho pa f) (hf : ∀ d, d < 16 → f d + d ≤ 18 ∨ f d = 0) (he : e < 2 ^ 31) : ∀ (j u fu : Nat), u + j = 15 → j < fu → f_X2_pinnedPlaces_4 fu a (nI e) (nI (pinM f e u)) (nI (u + 1)) (MM n x w I L Q D) = some (nI (pinM f e 15)) := by
  intro j
  induction j with
  | zero =>
    intro u fu hu hfu
    obtain ⟨fu, rfl⟩ : ∃ n9, fu = n9 + 1 := ⟨fu - 1, by omega⟩
    obtain rfl : u = 15 := by omega
    rw [f_X2_pinnedPlaces_4, if_pos (by decide)]
  | succ j ih =>
    intro u fu hu hfu
    obtain ⟨fu, rfl⟩ : ∃ n9, fu = n9 + 1 := ⟨fu - 1, by omega⟩
    have hs := ih (u + 1) fu (by omega) (by omega)
    have hd := hf (u + 1) (by omega)
    rw [f_X2_pinnedPlaces_4, li15, if_neg (nI_nlt (by omega) (by omega)), F_r hF, Option.bind_some, F_a hF (by omega), Option.bind_some, hx.2.2.2 _ (by omega), li1, nI_add]
    rw [pinM] at hs
    by_cases h0 : f (u + 1) = 0
    · rw [if_neg (fun q => q.1 h0)] at hs
      rw [h0, if_pos (show nI 0 = 0 from rfl)]
      exact hs
    · rw [if_neg (nI_ne0 (by omega) (by omega))]
      by_cases h1 : u + 1 = e
      · rw [if_neg (fun q => q.2 h1)] at hs
        rw [if_pos (by rw [h1])]
        exact hs
      · rw [if_pos ⟨h0, h1⟩] at hs
        rw [if_neg (fun q => h1 ((nI_eq (by omega) he).mp q))]
        simp only [Option.bind_some]
        rw [F_a hF (by omega), Option.bind_some, hx.2.2.2 _ (by omega), bitN (by omega) (by omega), Option.bind_some, Option.bind_some, nI_add, bitN (by omega) (by omega), Option.bind_some, fa_or, fa_or]
        exact hs
theorem c_pinnedPlaces {e : Nat} (hF : isF D a) (hx : FrC x I a c ho pa f) (hf : ∀ d, d < 16 → f d + d ≤ 18 ∨ f d = 0) (he : e < 2 ^ 31) : f_X2_pinnedPlaces (MM n x w I L Q D) a (nI e) = some (nI (pinM f e 15)) := by
  unfold f_X2_pinnedPlaces
  exact c_pinnedPlaces_l hF hx hf he 15 0 4096 (by decide) (by decide)
end FRC
