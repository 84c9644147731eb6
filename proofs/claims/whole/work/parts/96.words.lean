/-! the words -/
abbrev Tok : Type := Nat × Nat × Nat × Int32
def wds : List (List Nat) := [[99, 101, 108, 108, 115], [104, 111, 108, 101], [112, 97, 105, 114], [97, 116]]
def wch (i : Fin 4) (k : Nat) : Nat := (wds.getD i.val []).getD k 0
theorem wch_ok : ∀ i : Fin 4, tlen i ≤ 5 ∧ ∀ k, k < tlen i → tch i k = nI (wch i k) ∧ 97 ≤ wch i k ∧ wch i k ≤ 122 := by decide
def wdP (b : Nat → Nat) (t : Tok) (i : Fin 4) : Bool := decide (t.1 = 1) && decide (t.2.2.1 - t.2.1 = tlen i) && (List.range (tlen i)).all fun k => b (t.2.1 + k) == wch i k
theorem wdP_iff {b : Nat → Nat} {t : Tok} {i : Fin 4} : wdP b t i = true ↔ t.1 = 1 ∧ t.2.2.1 - t.2.1 = tlen i ∧ ∀ k, k < tlen i → b (t.2.1 + k) = wch i k := by
  unfold wdP
  rw [Bool.and_eq_true, Bool.and_eq_true, decide_eq_true_eq, decide_eq_true_eq, List.all_eq_true]
  constructor
  · rintro ⟨⟨h1, h2⟩, h3⟩
    exact ⟨h1, h2, fun k hk => by have := h3 k (List.mem_range.mpr hk); simpa using this⟩
  · rintro ⟨h1, h2, h3⟩
    exact ⟨⟨h1, h2⟩, fun k hk => by have := h3 k (List.mem_range.mp hk); simpa using this⟩
/-- where a token lies -/
theorem tk_pos {b : Nat → Nat} {T p : Nat} (hp : p ≤ T) : let t := tkAt b T p; (t.1 ≠ 4 → p ≤ t.2.1 ∧ t.2.2.1 ≤ T ∧ t.2.1 = p) ∧ (t.1 = 1 ∨ t.1 = 2 ∨ t.1 = 3 → t.2.1 < t.2.2.1) ∧ t.1 ≤ 4 := by
  show ((tkAt b T p).1 ≠ 4 → _) ∧ _
  unfold tkAt
  by_cases h1 : 300 < T ∧ 300 ≤ p
  · rw [if_pos h1]
    exact ⟨fun h => absurd rfl h, fun h => (by rcases h with h | h | h <;> cases h), (show 4 ≤ 4 by decide)⟩
  · rw [if_neg h1]
    by_cases h2 : T ≤ p
    · rw [if_pos h2]
      exact ⟨fun _ => ⟨Nat.le_refl _, by show p ≤ T; omega, rfl⟩, fun h => (by rcases h with h | h | h <;> cases h), (show 0 ≤ 4 by decide)⟩
    · rw [if_neg h2]
      by_cases h3 : b p = 59
      · rw [if_pos h3]
        exact ⟨fun _ => ⟨Nat.le_refl _, by show p + 1 ≤ T; omega, rfl⟩, fun _ => (by show p < p + 1; omega), (show 3 ≤ 4 by decide)⟩
      · rw [if_neg h3]
        have hr := rnC_le b (T - p) p 0 0 0
        have hk : kdN (rnC b (T - p) p 0 0 0).2.1 (rnC b (T - p) p 0 0 0).2.2.1 ≤ 4 := by unfold kdN; split; omega; split <;> omega
        refine ⟨fun _ => ⟨Nat.le_refl _, by show (rnC b (T - p) p 0 0 0).1 ≤ T; omega, rfl⟩, fun h => ?_, hk⟩
        show p < (rnC b (T - p) p 0 0 0).1
        have h : kdN (rnC b (T - p) p 0 0 0).2.1 (rnC b (T - p) p 0 0 0).2.2.1 = 1 ∨ kdN (rnC b (T - p) p 0 0 0).2.1 (rnC b (T - p) p 0 0 0).2.2.1 = 2 ∨ kdN (rnC b (T - p) p 0 0 0).2.1 (rnC b (T - p) p 0 0 0).2.2.1 = 3 := h
        unfold kdN at h
        split at h
        · omega
        · split at h
          · omega
          · omega
section WORDS
variable {n : Nat} {x : Nat → Nat → Int32} {w : Int64} {I : Nat → Nat → Int32} {L : Nat → Nat → Int64} {Q : Nat → Nat → Option Nat} {D : Nat → Bool} {b : Nat → Nat} {T : Nat} {t : Tok}
theorem c_word_l {i : Fin 4} (hb : ∀ j, j < T → b j < 256 ∧ I 5 j = byN (b j)) (hT : T ≤ 340) (h4 : x 2 4 = nI t.2.1) (hin : t.2.1 + tlen i ≤ T) : ∀ (j k fu : Nat), k + j = tlen i → j < fu → (∀ m, m < k → b (t.2.1 + m) = wch i m) → f_X5_isWord_28 fu 2 i (nI k) (MM n x w I L Q D) = some (bI (decide (∀ m, m < tlen i → b (t.2.1 + m) = wch i m)))
  | 0, k, fu, h, hf, hk => by
    obtain ⟨fu, rfl⟩ : ∃ n9, fu = n9 + 1 := ⟨fu - 1, by omega⟩
    have hl := (wch_ok i).1
    rw [f_X5_isWord_28, show f_J0_length_8abf5 (MM n x w I L Q D) i = some (nI (tlen i)) from rfl, ob_s, if_pos (nI_le (by omega) (by omega)), decide_eq_true (fun m hm => hk m (by omega))]
    rfl
  | j + 1, k, fu, h, hf, hk => by
    obtain ⟨fu, rfl⟩ : ∃ n9, fu = n9 + 1 := ⟨fu - 1, by omega⟩
    have hl := (wch_ok i).1
    have hw := (wch_ok i).2 k (by omega)
    have hbp := hb (t.2.1 + k) (by omega)
    have hc := byN_lo (b (t.2.1 + k)) hbp.1
    have hch : f_J0_charAt_5068e (MM n x w I L Q D) i (nI k) = some (nI (wch i k)) := by
      unfold f_J0_charAt_5068e
      rw [nI_clamp (by omega), if_neg (fun y => by rcases y with y | y; exact nI_pos (by omega) y; omega), hw.1]
    rw [f_X5_isWord_28, show f_J0_length_8abf5 (MM n x w I L Q D) i = some (nI (tlen i)) from rfl, ob_s, if_neg (nI_ge (by omega) (by omega)), r_2_1, ob_s, g_2_4, ob_s, h4, nI_add, a_at (a := 5) (len := 340) rfl (Or.inr (Or.inl rfl)) (by omega) (by decide), ob_s, hbp.2, hch, ob_s]
    by_cases z : b (t.2.1 + k) = wch i k
    · rw [if_pos (show byN (b (t.2.1 + k)) = nI (wch i k) by rw [hc.2.2.2.2.2.2.2 (by omega), z]), nI_1]
      exact c_word_l hb hT h4 hin j (k + 1) fu (by omega) (by omega) (fun m hm => by
        by_cases y : m = k
        · rw [y]; exact z
        · exact hk m (by omega))
    · have hne : ¬ byN (b (t.2.1 + k)) = nI (wch i k) := fun y => by
        by_cases q : b (t.2.1 + k) < 128
        · rw [hc.2.2.2.2.2.2.2 q] at y
          exact z ((nI_eq (by omega) (by omega)).mp y)
        · have := hc.1.mpr (Or.inr (by omega))
          rw [y] at this
          have := (nI_ltI (b := 48) (by omega) (by decide)).mp this
          omega
      rw [if_neg hne, decide_eq_false (fun y => z (y k (by omega)))]
      rfl
theorem c_word {i : Fin 4} (hb : ∀ j, j < T → b j < 256 ∧ I 5 j = byN (b j)) (hT : T ≤ 340) (ht : TkC x t) (hin : t.1 = 1 → t.2.1 ≤ t.2.2.1 ∧ t.2.2.1 ≤ T) (h4 : t.1 ≤ 4) : f_X5_isWord (MM n x w I L Q D) 2 i = some (bI (wdP b t i)) := by
  have hl := (wch_ok i).1
  unfold f_X5_isWord
  rw [g_2_3, ob_s, ht.1]
  by_cases z : t.1 = 1
  · have hi := hin z
    rw [if_pos (show nI t.1 = 1 by rw [z]; rfl), g_2_5, ob_s, g_2_4, ob_s, ht.2.1, ht.2.2.1, show f_J0_length_8abf5 (MM n x w I L Q D) i = some (nI (tlen i)) from rfl, ob_s, pk_sub hi.1]
    by_cases y : t.2.2.1 - t.2.1 = tlen i
    · rw [if_pos (show nI (t.2.2.1 - t.2.1) = nI (tlen i) by rw [y])]
      refine Eq.trans (c_word_l (t := t) hb hT ht.2.1 (by omega) (tlen i) 0 4096 (by omega) (by omega) (fun m hm => absurd hm (Nat.not_lt_zero m))) ?_
      congr 2
      rw [Bool.eq_iff_iff, wdP_iff, decide_eq_true_eq]
      exact ⟨fun q => ⟨z, y, q⟩, fun q => q.2.2⟩
    · rw [if_neg (fun q => y ((nI_eq (by omega) (by omega)).mp q))]
      have : wdP b t i = false := by
        cases q : wdP b t i with
        | false => rfl
        | true => exact absurd (wdP_iff.mp q).2.1 y
      rw [this]
      rfl
  · have : wdP b t i = false := by
      cases q : wdP b t i with
      | false => rfl
      | true => exact absurd (wdP_iff.mp q).1 z
    rw [if_neg (show ¬ nI t.1 = 1 from fun q => z ((nI_eq (b := 1) (by omega) (by decide)).mp q)), this]
    rfl
end WORDS
/-! the model's codes -/
def cdF (f : Nat → Nat) : Nat → Nat
  | 0 => 0
  | k + 1 => 27 * cdF f k + f k
theorem cdF_inj {f g : Nat → Nat} : ∀ (k m : Nat), (∀ i, i < k → 1 ≤ f i ∧ f i ≤ 26) → (∀ i, i < m → 1 ≤ g i ∧ g i ≤ 26) → cdF f k = cdF g m → k = m ∧ ∀ i, i < k → f i = g i
  | 0, 0, _, _, _ => ⟨rfl, fun i hi => absurd hi (Nat.not_lt_zero i)⟩
  | 0, m + 1, _, hg, h => by have := hg m (by omega); rw [cdF, cdF] at h; omega
  | k + 1, 0, hf, _, h => by have := hf k (by omega); rw [cdF, cdF] at h; omega
  | k + 1, m + 1, hf, hg, h => by
    have a := hf k (by omega)
    have c := hg m (by omega)
    rw [cdF, cdF] at h
    obtain ⟨e1, e2⟩ := cdF_inj k m (fun i hi => hf i (by omega)) (fun i hi => hg i (by omega)) (by omega)
    subst e1
    refine ⟨rfl, fun i hi => ?_⟩
    by_cases z : i = k
    · subst z; omega
    · exact e2 i (by omega)
theorem cdF_lt {f : Nat → Nat} : ∀ k, (∀ i, i < k → f i ≤ 26) → cdF f k < 27 ^ k
  | 0, _ => by rw [cdF]; decide
  | k + 1, h => by
    have := cdF_lt k (fun i hi => h i (by omega))
    have := h k (by omega)
    rw [cdF, Nat.pow_succ]
    omega
theorem cdB_F {b : Nat → Nat} {f : Nat} : ∀ k, cdB b f k = cdF (fun i => b (f + i) - 96) k
  | 0 => rfl
  | k + 1 => by rw [cdB, cdF, cdB_F k]
section WORDM
variable {n : Nat} {x : Nat → Nat → Int32} {w : Int64} {I : Nat → Nat → Int32} {L : Nat → Nat → Int64} {Q : Nat → Nat → Option Nat} {D : Nat → Bool} {b : Nat → Nat} {t : Tok}
theorem m_word {i : Fin 4} (ht : TkM b x w t) (hpos : t.1 = 1 → t.2.1 < t.2.2.1) (h4 : t.1 ≤ 4) : f_X7_isWord (MM n x w I L Q D) 64 (lN (cdF (fun k => wch i k - 96) (tlen i))) = some (bI (wdP b t i)) := by
  have hl := (wch_ok i).1
  have hwd : t.1 ≠ 1 → wdP b t i = false := fun z => by
    cases q : wdP b t i with
    | false => rfl
    | true => exact absurd (wdP_iff.mp q).1 z
  have hg : ∀ k, k < tlen i → 1 ≤ (fun k => wch i k - 96) k ∧ (fun k => wch i k - 96) k ≤ 26 := fun k hk => by
    have := ((wch_ok i).2 k hk).2
    show 1 ≤ wch i k - 96 ∧ wch i k - 96 ≤ 26
    omega
  have hsrt : ∀ k, k ≤ 4 → srt k < 5 ∧ (srt k = 2 ↔ k = 1) := by decide
  have hs := hsrt t.1 h4
  unfold f_X7_isWord
  rw [g_64_6, ob_s, ht.1]
  by_cases z : t.1 = 1
  · obtain ⟨w1, w2⟩ := ht.2.2.2.2 z
    have hp := hpos z
    have hf : ∀ k, k < t.2.2.1 - t.2.1 → 1 ≤ (fun i => b (t.2.1 + i) - 96) k ∧ (fun i => b (t.2.1 + i) - 96) k ≤ 26 := fun k hk => by
      have := w2 k hk
      unfold isLt at this
      have : 97 ≤ b (t.2.1 + k) ∧ b (t.2.1 + k) ≤ 122 := by simpa using this
      show 1 ≤ b (t.2.1 + k) - 96 ∧ b (t.2.1 + k) - 96 ≤ 26
      omega
    rw [if_pos (show nI (srt t.1) = 2 by rw [hs.2.mpr z]; rfl), l_64_10, ob_s, w1, cdB_F]
    have l1 := cdF_lt (f := fun i => b (t.2.1 + i) - 96) (min (t.2.2.1 - t.2.1) 6) (fun i hi => (hf i (by omega)).2)
    have l2 := cdF_lt (f := fun k => wch i k - 96) (tlen i) (fun i hi => (hg i hi).2)
    have p6 : 27 ^ (min (t.2.2.1 - t.2.1) 6) ≤ 27 ^ 6 := Nat.pow_le_pow_right (by decide) (by omega)
    have p5 : 27 ^ (tlen i) ≤ 27 ^ 6 := Nat.pow_le_pow_right (by decide) (by omega)
    have q6 : 27 ^ 6 < 2 ^ 63 := by decide
    by_cases y : cdF (fun i => b (t.2.1 + i) - 96) (min (t.2.2.1 - t.2.1) 6) = cdF (fun k => wch i k - 96) (tlen i)
    · obtain ⟨e1, e2⟩ := cdF_inj _ _ (fun k hk => hf k (by omega)) hg y
      have : wdP b t i = true := wdP_iff.mpr ⟨z, by omega, fun k hk => by
        have e : b (t.2.1 + k) - 96 = wch i k - 96 := e2 k (by omega)
        have a := hf k (by omega)
        have a : 1 ≤ b (t.2.1 + k) - 96 ∧ b (t.2.1 + k) - 96 ≤ 26 := a
        have c := ((wch_ok i).2 k hk).2
        omega⟩
      rw [y, if_pos (lcmp_self _), this]
      rfl
    · have hne : ¬ lg_cmp (lN (cdF (fun i => b (t.2.1 + i) - 96) (min (t.2.2.1 - t.2.1) 6))) (lN (cdF (fun k => wch i k - 96) (tlen i))) = 0 := fun v => y (by
        have a := (lg_cmp_ge _ _).mp (by rw [v]; decide)
        have c := (lg_cmp_le _ _).mp (by rw [v]; decide)
        rw [pk_lLE (by omega) (by omega)] at a c
        omega)
      have : wdP b t i = false := by
        cases q : wdP b t i with
        | false => rfl
        | true =>
          obtain ⟨_, q2, q3⟩ := wdP_iff.mp q
          refine absurd ?_ y
          rw [show min (t.2.2.1 - t.2.1) 6 = tlen i by omega]
          have : ∀ k, k ≤ tlen i → cdF (fun i => b (t.2.1 + i) - 96) k = cdF (fun k => wch i k - 96) k := fun k => by
            induction k with
            | zero => intro _; rfl
            | succ k ih => intro hk; rw [cdF, cdF, ih (by omega), q3 k (by omega)]
          exact this _ (Nat.le_refl _)
      rw [if_neg hne, this]
      rfl
  · rw [if_neg (show ¬ nI (srt t.1) = 2 from fun y => z (hs.2.mp ((nI_eq (b := 2) (by omega) (by decide)).mp y))), hwd z]
    rfl
theorem m_isCells (ht : TkM b x w t) (hpos : t.1 = 1 → t.2.1 < t.2.2.1) (h4 : t.1 ≤ 4) : f_X7_isCells (MM n x w I L Q D) 64 = some (bI (wdP b t 0)) := by
  unfold f_X7_isCells
  rw [show f_X7_spelt (MM n x w I L Q D) 99 101 108 108 115 = some (lN (cdF (fun k => wch 0 k - 96) (tlen 0))) from rfl, ob_s, o_64, if_pos rfl, m_word ht hpos h4, ob_s, if_pos (by cases wdP b t 0 <;> decide)]
theorem m_isHole (ht : TkM b x w t) (hpos : t.1 = 1 → t.2.1 < t.2.2.1) (h4 : t.1 ≤ 4) : f_X7_isHole (MM n x w I L Q D) 64 = some (bI (wdP b t 1)) := by
  unfold f_X7_isHole
  rw [show f_X7_spelt (MM n x w I L Q D) 104 111 108 101 0 = some (lN (cdF (fun k => wch 1 k - 96) (tlen 1))) from rfl, ob_s, o_64, if_pos rfl, m_word ht hpos h4, ob_s, if_pos (by cases wdP b t 1 <;> decide)]
theorem m_isPair (ht : TkM b x w t) (hpos : t.1 = 1 → t.2.1 < t.2.2.1) (h4 : t.1 ≤ 4) : f_X7_isPair (MM n x w I L Q D) 64 = some (bI (wdP b t 2)) := by
  unfold f_X7_isPair
  rw [show f_X7_spelt (MM n x w I L Q D) 112 97 105 114 0 = some (lN (cdF (fun k => wch 2 k - 96) (tlen 2))) from rfl, ob_s, o_64, if_pos rfl, m_word ht hpos h4, ob_s, if_pos (by cases wdP b t 2 <;> decide)]
theorem m_isAt (ht : TkM b x w t) (hpos : t.1 = 1 → t.2.1 < t.2.2.1) (h4 : t.1 ≤ 4) : f_X7_isAt (MM n x w I L Q D) 64 = some (bI (wdP b t 3)) := by
  unfold f_X7_isAt
  rw [show f_X7_spelt (MM n x w I L Q D) 97 116 0 0 0 = some (lN (cdF (fun k => wch 3 k - 96) (tlen 3))) from rfl, ob_s, o_64, if_pos rfl, m_word ht hpos h4, ob_s, if_pos (by cases wdP b t 3 <;> decide)]
end WORDM
