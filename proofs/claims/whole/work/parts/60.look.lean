/-! the row that was looked at: at, first -/
theorem fst1_up {r : Nat → Nat} {d k : Nat} (h : fst1 r d k ≠ 0) : ∀ j, fst1 r d (k + j) = fst1 r d k
  | 0 => rfl
  | j + 1 => by
    rw [← Nat.add_assoc, fst1, fst1_up h j, if_pos h]
theorem fst1_le {r : Nat → Nat} {d : Nat} : ∀ k, fst1 r d k ≤ k
  | 0 => Nat.le_refl _
  | k + 1 => by
    have := fst1_le (r := r) (d := d) k
    rw [fst1]
    split
    · omega
    · split <;> omega
theorem fst1_0 {r : Nat → Nat} {d : Nat} : ∀ k, fst1 r d k = 0 ↔ ∀ j, j < k → r j ≠ d
  | 0 => ⟨fun _ j hj => absurd hj (Nat.not_lt_zero j), fun _ => rfl⟩
  | k + 1 => by
    have ih := fst1_0 (r := r) (d := d) k
    rw [fst1]
    constructor
    · intro h j hj
      by_cases q : fst1 r d k ≠ 0
      · rw [if_pos q] at h; exact absurd h q
      · rw [if_neg q] at h
        by_cases q2 : r k = d
        · rw [if_pos q2] at h; omega
        · by_cases q3 : j = k
          · subst q3; exact q2
          · exact ih.mp (Classical.byContradiction q) j (by omega)
    · intro h
      rw [if_neg (fun q => q (ih.mpr fun j hj => h j (by omega))), if_neg (h k (by omega))]
theorem fst1_at {r : Nat → Nat} {d : Nat} : ∀ k, fst1 r d k ≠ 0 → r (fst1 r d k - 1) = d ∧ ∀ j, j < fst1 r d k - 1 → r j ≠ d
  | 0, h => absurd rfl h
  | k + 1, h => by
    rw [fst1] at h ⊢
    by_cases q : fst1 r d k ≠ 0
    · rw [if_pos q] at h ⊢
      exact fst1_at k q
    · rw [if_neg q] at h ⊢
      by_cases q2 : r k = d
      · rw [if_pos q2] at h ⊢
        exact ⟨by rw [show k + 1 - 1 = k by omega]; exact q2, fun j hj => (fst1_0 k).mp (Classical.byContradiction q) j (by omega)⟩
      · rw [if_neg q2] at h; exact absurd rfl h
theorem lK_le {m : Option Nat} {r : Nat → Nat} (h : LKok m r) : lK m ≤ 121 := h.1
theorem NO_lt {j : Nat} (hj : j < 2 ^ 31) : NO < nI j := neg_lt (by decide) hj
section LOOK
variable {n : Nat} {x : Nat → Nat → Int32} {w : Int64} {I : Nat → Nat → Int32} {L : Nat → Nat → Int64} {Q : Nat → Nat → Option Nat} {D : Nat → Bool} {m : Option Nat} {r : Nat → Nat}
theorem c_numberAt {j : Nat} (hk : LKok m r) (hx : LKC x I m r) (hj : j < 2 ^ 31) : f_X4_numberAt (MM n x w I L Q D) 60 (nI j) = some (if 1 ≤ j ∧ j ≤ lK m then nI (r (j - 1)) else NO) := by
  have hle := hk.1
  unfold f_X4_numberAt
  rw [liN, g_60_2, hx.1, li1]
  by_cases h1 : j < 1
  · rw [if_pos (nI_lt h1 (by decide)), if_neg (by omega)]
  · rw [if_neg (nI_nlt (by omega) hj), Option.bind_some]
    cases m with
    | none =>
      rw [show lI none = NO from rfl, if_pos (NO_lt hj), if_neg (by show ¬ (1 ≤ j ∧ j ≤ 0); omega)]
    | some k =>
      have hle : k ≤ 121 := hle
      show (if nI k < nI j then _ else _) = some (if 1 ≤ j ∧ j ≤ k then _ else _)
      by_cases h2 : k < j
      · rw [if_pos (nI_lt h2 hj), if_neg (by omega)]
      · rw [if_neg (nI_nlt (by omega) (by omega)), r_60_0, Option.bind_some, a_at (a := 61) (len := 122) rfl (Or.inl rfl) (by omega) (by decide), Option.bind_some, if_pos (by omega)]
        have := hx.2.1 (j - 1) (by show j - 1 < k; omega)
        rw [show j - 1 + 1 = j by omega] at this
        rw [this]
theorem c_numberAtN {q : Int32} (hq : q < 0) : f_X4_numberAt (MM n x w I L Q D) 60 q = some NO := by
  unfold f_X4_numberAt
  rw [liN, li1, if_pos (neg_lt hq (by decide))]
theorem c_firstOf {j : Nat} (hk : LKok m r) (hx : LKC x I m r) (hj : j < 2 ^ 31) : f_X4_firstOf (MM n x w I L Q D) 60 (nI j) = some (if j = 0 ∨ fst1 r j (lK m) = 0 then NO else nI (fst1 r j (lK m))) := by
  have hle := hk.1
  have hf := fst1_le (r := r) (d := j) (lK m)
  unfold f_X4_firstOf
  rw [liN, li1]
  by_cases h1 : j < 1
  · rw [if_pos (nI_lt h1 (by decide)), if_pos (Or.inl (by omega))]
  · rw [if_neg (nI_nlt (by omega) hj), li60]
    by_cases h2 : 60 < j
    · rw [if_pos (nI_lt h2 hj), if_pos (Or.inr ((fst1_0 _).mpr fun i hi e => by have := hk.2.1 i hi; omega))]
    · rw [if_neg (nI_nlt (by omega) (by decide)), r_60_1, Option.bind_some, a_at (a := 62) (len := 61) rfl (Or.inl rfl) (by omega) (by decide), Option.bind_some, hx.2.2 j (by omega) (by omega)]
      simp only [ob_s]
      rw [a_at (a := 62) (len := 61) rfl (Or.inl rfl) (by omega) (by decide), Option.bind_some, hx.2.2 j (by omega) (by omega)]
      by_cases h3 : fst1 r j (lK m) = 0
      · rw [if_pos (show nI (fst1 r j (lK m)) = 0 by rw [h3]; rfl), if_pos (Or.inr h3)]
      · rw [if_neg (show ¬ nI (fst1 r j (lK m)) = 0 from nI_ne0 (by omega) (by omega)), if_neg (fun e => by rcases e with e | e; omega; exact h3 e)]
theorem c_firstOfN {q : Int32} (hq : q < 0) : f_X4_firstOf (MM n x w I L Q D) 60 q = some NO := by
  unfold f_X4_firstOf
  rw [liN, li1, if_pos (neg_lt hq (by decide))]
theorem m_firstOf_l {d K : Nat} (hd : 1 ≤ d) (hd2 : d < 2 ^ 31) (hK : K ≤ 121) (hr : ∀ j, j < K → r j ≤ 60) (h28 : x 64 28 = nI K) (hI : ∀ j, j < K → I 78 j = nI (r j)) : ∀ (j k fu : Nat), k + j = K → j < fu → fst1 r d k = 0 → f_X7_firstOf_2 fu 64 (nI d) (nI k) (MM n x w I L Q D) = some (if fst1 r d K = 0 then NO else nI (fst1 r d K)) := by
  intro j
  induction j with
  | zero =>
    intro k fu hu hfu h0
    obtain ⟨fu, rfl⟩ : ∃ n9, fu = n9 + 1 := ⟨fu - 1, by omega⟩
    obtain rfl : k = K := by omega
    rw [f_X7_firstOf_2, g_64_28, Option.bind_some, h28, if_pos (nI_le (Nat.le_refl _) (by omega)), if_pos h0]
    rfl
  | succ j ih =>
    intro k fu hu hfu h0
    obtain ⟨fu, rfl⟩ : ∃ n9, fu = n9 + 1 := ⟨fu - 1, by omega⟩
    have hrk := hr k (by omega)
    rw [f_X7_firstOf_2, g_64_28, Option.bind_some, h28, if_neg (nI_ge (by omega) (by omega)), if_neg (nI_nle (by omega) hd2), r_64_27, Option.bind_some, a_at (a := 78) (len := 121) rfl (Or.inl rfl) (by omega) (by decide), Option.bind_some, hI k (by omega), li1, nI_add]
    by_cases q : r k = d
    · have e : fst1 r d (k + 1) = k + 1 := by rw [fst1, if_neg (fun z => z h0), if_pos q]
      have e2 : fst1 r d K = k + 1 := by
        rw [show K = (k + 1) + j by omega, fst1_up (by rw [e]; omega), e]
      rw [if_pos (show nI (r k) = nI d by rw [q]), e2, if_neg (by omega)]
    · rw [if_neg (show ¬ nI (r k) = nI d from fun z => q ((nI_eq (by omega) hd2).mp z))]
      exact ih (k + 1) fu (by omega) (by omega) (by rw [fst1, if_neg (fun z => z h0), if_neg q])
theorem m_firstOf {j : Nat} (hk : LKok m r) (hx : LKM x I m r) (hj : j < 2 ^ 31) : f_X7_firstOf (MM n x w I L Q D) 64 (nI j) = some (if j = 0 ∨ fst1 r j (lK m) = 0 then NO else nI (fst1 r j (lK m))) := by
  unfold f_X7_firstOf
  cases m with
  | none =>
    rw [if_pos (show j = 0 ∨ fst1 r j (lK none) = 0 from Or.inr rfl), f_X7_firstOf_2, g_64_28, Option.bind_some, hx.1, if_pos (show lI none ≤ 0 by decide)]
    rfl
  | some K =>
    have hle : K ≤ 121 := hk.1
    by_cases h0 : j = 0
    · rw [if_pos (Or.inl h0), f_X7_firstOf_2, g_64_28, Option.bind_some, hx.1]
      by_cases q : lI (some K) ≤ 0
      · rw [if_pos q]; rfl
      · rw [if_neg q, if_pos (show nI j ≤ 0 by rw [h0]; decide)]; rfl
    · rw [li0, m_firstOf_l (r := r) (K := K) (by omega) hj hle hk.2.1 hx.1 hx.2 K 0 4096 (by omega) (by omega) rfl]
      by_cases q : fst1 r j K = 0
      · rw [if_pos q, if_pos (show j = 0 ∨ fst1 r j (lK (some K)) = 0 from Or.inr q)]
      · rw [if_neg q, if_neg (show ¬ (j = 0 ∨ fst1 r j (lK (some K)) = 0) from fun e => by rcases e with e | e; exact h0 e; exact q e)]
        rfl
theorem m_firstOfN {q : Int32} (hk : LKok m r) (hx : LKM x I m r) (hq : q < 0) : f_X7_firstOf (MM n x w I L Q D) 64 q = some NO := by
  unfold f_X7_firstOf
  rw [f_X7_firstOf_2, g_64_28, Option.bind_some, hx.1]
  by_cases z : lI m ≤ 0
  · rw [if_pos z]; rfl
  · have hq0 : q ≤ 0 := Int32.le_of_lt hq
    rw [if_neg z, if_pos hq0]; rfl
end LOOK
theorem LKM.thr {x I : Nat → Nat → Int32} {m : Option Nat} {r : Nat → Nat} {v : Int32} (h : LKM x I m r) : LKM (s2 x 64 0 v) I m r := ⟨by rw [s2_ne (by decide)]; exact h.1, h.2⟩
theorem s_first {PC : PCt} (hP : PCok PC) : S_first (INVp PC) := by
  intro h hI a1
  rcases neg_or a1 with hq | ⟨j, hj, rfl⟩
  · refine both0 (fC := fun h => f_X6_first h 0 a1) (fM := fun h => f_X7_first h 64 a1) hP.sc (fun _ => NO) (fun S => S) (fun n x w I L Q D S hc => ⟨?_, hc⟩) (fun n x w I L Q D S hb hm => ⟨s2 x 64 0 0, w, I, ?_, hm.thrown, SC.s2x⟩) hI
    · unfold f_X6_first
      rw [r_0_12, Option.bind_some, o_60, if_pos rfl, c_firstOfN hq, Option.bind_some]
    · unfold f_X7_first
      rw [p_64_0, Option.bind_some, o_64, if_pos rfl, m_firstOfN hb.2.2.2.2 hm.2.2.2.2.2.thr hq, Option.bind_some]
  · refine both0 (fC := fun h => f_X6_first h 0 (nI j)) (fM := fun h => f_X7_first h 64 (nI j)) hP.sc (fun S => if j = 0 ∨ fst1 (lR S) j (lK (lN9 S)) = 0 then NO else nI (fst1 (lR S) j (lK (lN9 S)))) (fun S => S) (fun n x w I L Q D S hc => ⟨?_, hc⟩) (fun n x w I L Q D S hb hm => ⟨s2 x 64 0 0, w, I, ?_, hm.thrown, SC.s2x⟩) hI
    · have hl := hc.2.2.2.2.2.2.2.1
      unfold f_X6_first
      rw [r_0_12, Option.bind_some, o_60, if_pos rfl, c_firstOf hl.1 hl.2 hj, Option.bind_some]
    · unfold f_X7_first
      rw [p_64_0, Option.bind_some, o_64, if_pos rfl, m_firstOf hb.2.2.2.2 hm.2.2.2.2.2.thr hj, Option.bind_some]
theorem s_at {PC : PCt} (hP : PCok PC) : S_at (INVp PC) := by
  intro h hI a1
  rcases neg_or a1 with hq | ⟨j, hj, rfl⟩
  · refine both0 (fC := fun h => f_X6_at h 0 a1) (fM := fun h => f_X7_at h 64 a1) hP.sc (fun _ => NO) (fun S => S) (fun n x w I L Q D S hc => ⟨?_, hc⟩) (fun n x w I L Q D S hb hm => ⟨s2 x 64 0 0, w, I, ?_, hm.thrown, SC.s2x⟩) hI
    · unfold f_X6_at
      rw [r_0_12, Option.bind_some, o_60, if_pos rfl, c_numberAtN hq, Option.bind_some]
    · unfold f_X7_at
      rw [liN, p_64_0, Option.bind_some, g_64_28, Option.bind_some, li1, m_isInN hq (by decide), Option.bind_some, if_pos rfl]
  · refine both0 (fC := fun h => f_X6_at h 0 (nI j)) (fM := fun h => f_X7_at h 64 (nI j)) hP.sc (fun S => if 1 ≤ j ∧ j ≤ lK (lN9 S) then nI (lR S (j - 1)) else NO) (fun S => S) (fun n x w I L Q D S hc => ⟨?_, hc⟩) (fun n x w I L Q D S hb hm => ⟨s2 x 64 0 0, w, I, ?_, hm.thrown, SC.s2x⟩) hI
    · have hl := hc.2.2.2.2.2.2.2.1
      unfold f_X6_at
      rw [r_0_12, Option.bind_some, o_60, if_pos rfl, c_numberAt hl.1 hl.2 hj, Option.bind_some]
    · have hl := hm.2.2.2.2.2
      have hle := hb.2.2.2.2.1
      unfold f_X7_at
      rw [liN, p_64_0, Option.bind_some, g_64_28, Option.bind_some, s2_ne (by decide), hl.1, li1]
      cases hm9 : lN9 S with
      | none =>
        have e : f_X7_isIn (MM n (s2 x 64 0 0) w I L Q D) (nI j) (nI 1) (lI none) = some 0 := by
          unfold f_X7_isIn
          by_cases z : nI j < nI 1
          · rw [if_pos z]
          · rw [if_neg z, if_pos (show lI none < nI j from NO_lt hj)]
        rw [e, Option.bind_some, if_pos rfl, if_neg (show ¬ (1 ≤ j ∧ j ≤ lK none) by show ¬ (1 ≤ j ∧ j ≤ 0); omega)]
      | some K =>
        rw [hm9] at hle hl
        have hle : K ≤ 121 := hle
        rw [show lI (some K) = nI K from rfl, m_isIn hj (by decide) (by omega), Option.bind_some]
        by_cases q : 1 ≤ j ∧ j ≤ K
        · rw [if_neg (show ¬ bI (decide (1 ≤ j ∧ j ≤ K)) = 0 by rw [bI_0]; simpa using q), r_64_27, Option.bind_some, pk_sub q.1, a_at (a := 78) (len := 121) rfl (Or.inl rfl) (by omega) (by decide), Option.bind_some, hl.2 (j - 1) (by show j - 1 < K; omega), if_pos (show 1 ≤ j ∧ j ≤ lK (some K) from q)]
        · rw [if_pos (show bI (decide (1 ≤ j ∧ j ≤ K)) = 0 by rw [bI_0]; simpa using q), if_neg (show ¬ (1 ≤ j ∧ j ≤ lK (some K)) from q)]
