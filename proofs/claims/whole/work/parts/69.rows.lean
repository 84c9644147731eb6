/-! a filling as a row -/
def rowL : List (Nat × Nat) → Nat → Nat
  | [], _ => 0
  | p :: e, k => if k = p.1 ∨ k = p.1 + p.2 + 1 then p.2 + 1 else rowL e k
def VE : Nat → Nat → List (Nat × Nat) → Prop
  | _, un, [] => un = 0
  | fr, un, p :: e => fr.testBit p.1 = true ∧ fr.testBit (p.1 + p.2 + 1) = true ∧ un.testBit p.2 = true ∧ p.2 < 15 ∧ VE (msk (msk fr (2 ^ p.1)) (2 ^ (p.1 + p.2 + 1))) (msk un (2 ^ p.2)) e
theorem enuP_VE {f : Nat → Nat} : ∀ (j q fr un : Nat) (e : List (Nat × Nat)), e ∈ enuP f j q fr un → VE fr un e
  | 0, q, fr, un, e, h => by
    rw [enuP] at h
    split at h
    · rename_i h0
      rw [List.mem_singleton.mp h]
      exact h0
    · cases h
  | j + 1, q, fr, un, e, h => by
    rw [enuP] at h
    split at h
    · rename_i hq
      obtain ⟨i, h0, hi⟩ := List.mem_flatMap.mp h
      split at hi
      · rename_i hc
        obtain ⟨e', h1, rfl⟩ := List.mem_map.mp hi
        exact ⟨hq, hc.2.1, hc.1, List.mem_range.mp h0, enuP_VE j (q + 1) _ _ e' h1⟩
      · cases hi
    · exact enuP_VE j (q + 1) _ _ e h
theorem enuP_ge {f : Nat → Nat} : ∀ (j q fr un : Nat) (e : List (Nat × Nat)), e ∈ enuP f j q fr un → ∀ p ∈ e, q ≤ p.1
  | 0, q, fr, un, e, h, p, hp => by
    rw [enuP] at h
    split at h
    · rw [List.mem_singleton.mp h] at hp; cases hp
    · cases h
  | j + 1, q, fr, un, e, h, p, hp => by
    rw [enuP] at h
    split at h
    · obtain ⟨i, _, hi⟩ := List.mem_flatMap.mp h
      split at hi
      · obtain ⟨e', h1, rfl⟩ := List.mem_map.mp hi
        rcases List.mem_cons.mp hp with rfl | z
        · exact Nat.le_refl _
        · have := enuP_ge j (q + 1) _ _ e' h1 p z; omega
      · cases hi
    · have := enuP_ge j (q + 1) _ _ e h p hp; omega
theorem VE.mem : ∀ {e : List (Nat × Nat)} {fr un : Nat}, VE fr un e → ∀ p ∈ e, fr.testBit p.1 = true ∧ fr.testBit (p.1 + p.2 + 1) = true ∧ un.testBit p.2 = true ∧ p.2 < 15
  | [], _, _, _, p, hp => by cases hp
  | a :: e, fr, un, h, p, hp => by
    rcases List.mem_cons.mp hp with rfl | z
    · exact ⟨h.1, h.2.1, h.2.2.1, h.2.2.2.1⟩
    · have := VE.mem h.2.2.2.2 p z
      rw [msk1, msk1, msk1, msk1, msk1] at this
      simp only [Bool.and_eq_true] at this
      exact ⟨this.1.1.1, this.2.1.1.1, this.2.2.1.1, this.2.2.2⟩
theorem rowL_mem : ∀ {e : List (Nat × Nat)} {k : Nat}, rowL e k ≠ 0 → ∃ p ∈ e, (k = p.1 ∨ k = p.1 + p.2 + 1) ∧ rowL e k = p.2 + 1
  | [], k, h => absurd rfl h
  | a :: e, k, h => by
    rw [rowL] at h ⊢
    split
    · rename_i z
      exact ⟨a, List.mem_cons_self .., z, rfl⟩
    · rename_i z
      rw [if_neg z] at h
      obtain ⟨p, h1, h2, h3⟩ := rowL_mem h
      exact ⟨p, List.mem_cons_of_mem _ h1, h2, h3⟩
theorem VE.free {e : List (Nat × Nat)} {fr un k : Nat} (h : VE fr un e) (hk : rowL e k ≠ 0) : fr.testBit k = true := by
  obtain ⟨p, h1, h2, h3⟩ := rowL_mem hk
  have := h.mem p h1
  rcases h2 with rfl | rfl
  · exact this.1
  · exact this.2.1
theorem VE.at : ∀ {e : List (Nat × Nat)} {fr un : Nat}, VE fr un e → ∀ p ∈ e, rowL e p.1 = p.2 + 1 ∧ rowL e (p.1 + p.2 + 1) = p.2 + 1
  | [], _, _, _, p, hp => by cases hp
  | a :: e, fr, un, h, p, hp => by
    rcases List.mem_cons.mp hp with rfl | z
    · exact ⟨by rw [rowL, if_pos (Or.inl rfl)], by rw [rowL, if_pos (Or.inr rfl)]⟩
    · have h1 := VE.mem h.2.2.2.2 p z
      have h2 := VE.at h.2.2.2.2 p z
      rw [msk1, msk1, msk1, msk1] at h1
      simp only [Bool.and_eq_true, decide_eq_true_eq] at h1
      refine ⟨?_, ?_⟩
      · rw [rowL, if_neg (fun y => y.elim h1.1.1.2 h1.1.2)]
        exact h2.1
      · rw [rowL, if_neg (fun y => y.elim h1.2.1.1.2 h1.2.1.2)]
        exact h2.2
theorem VE.one : ∀ {e : List (Nat × Nat)} {fr un : Nat}, VE fr un e → ∀ i, (un.testBit i = true → ∃ q, (q, i) ∈ e) ∧ (∀ p p', p ∈ e → p' ∈ e → p.2 = i → p'.2 = i → p = p')
  | [], _, un, h, i => by
    have h : un = 0 := h
    subst h
    exact ⟨fun z => (by rw [Nat.zero_testBit] at z; cases z), fun p p' hp => by cases hp⟩
  | a :: e, fr, un, h, i => by
    have ih := VE.one h.2.2.2.2 i
    have hm := VE.mem h.2.2.2.2
    refine ⟨fun z => ?_, fun p p' hp hp' h1 h2 => ?_⟩
    · by_cases y : i = a.2
      · exact ⟨a.1, by rw [y]; exact List.mem_cons_self ..⟩
      · obtain ⟨q, hq⟩ := ih.1 (by rw [msk1, z]; simp [y])
        exact ⟨q, List.mem_cons_of_mem _ hq⟩
    · have no : ∀ b ∈ e, b.2 ≠ a.2 := fun b hb y => by
        have := (hm b hb).2.2.1
        rw [msk1, y] at this
        simp at this
      rcases List.mem_cons.mp hp with rfl | z <;> rcases List.mem_cons.mp hp' with rfl | z'
      · rfl
      · exact absurd (h2.trans h1.symm) (no p' z')
      · exact absurd (h1.trans h2.symm) (no p z)
      · exact ih.2 p p' z z' h1 h2
theorem VE.count : ∀ {e : List (Nat × Nat)} {fr un : Nat}, VE fr un e → ∀ p, e.count p = if p ∈ e then 1 else 0
  | [], _, _, _, p => by rw [List.count_nil, if_neg (List.not_mem_nil)]
  | a :: e, fr, un, h, p => by
    have ih := VE.count h.2.2.2.2 p
    have hm := VE.mem h.2.2.2.2
    rw [List.count_cons, ih]
    by_cases z : a = p
    · subst z
      have : a ∉ e := fun y => by
        have := (hm a y).2.2.1
        rw [msk1] at this
        simp at this
      rw [if_neg this, if_pos (by simp), if_pos (List.mem_cons_self ..)]
    · rw [if_neg (c := (a == p) = true) (by simpa using z)]
      by_cases y : p ∈ e
      · rw [if_pos y, if_pos (List.mem_cons_of_mem _ y)]
      · rw [if_neg y, if_neg (fun t => (List.mem_cons.mp t).elim (fun t => z t.symm) y)]
/-- where a number stands first -/
theorem VE.stand {e : List (Nat × Nat)} {fr un k i : Nat} (h : VE fr un e) : (rowL e k = i + 1 ∧ rowL e (k + i + 1) = i + 1) ↔ (k, i) ∈ e := by
  constructor
  · rintro ⟨h1, h2⟩
    obtain ⟨p, p1, p2, p3⟩ := rowL_mem (e := e) (k := k) (by omega)
    obtain ⟨r, r1, r2, r3⟩ := rowL_mem (e := e) (k := k + i + 1) (by omega)
    have : p = r := (h.one i).2 p r p1 r1 (by omega) (by omega)
    subst this
    have hk : k = p.1 := by omega
    have hi : i = p.2 := by omega
    rw [hk, hi]
    exact p1
  · intro h1
    exact h.at _ h1
theorem VE.twin {e : List (Nat × Nat)} {fr un c : Nat} (h : VE fr un e) (hc : fr < 2 ^ c) : twin (rowL e) c := by
  intro d hd ⟨j, hj, e1⟩
  obtain ⟨p, p1, p2, p3⟩ := rowL_mem (e := e) (k := j) (by omega)
  have hpd : p.2 + 1 = d := by omega
  have h1 := h.at p p1
  have hlt : p.1 + p.2 + 1 < c := by
    by_cases z : p.1 + p.2 + 1 < c
    · exact z
    · have := (h.mem p p1).2.1
      rw [Nat.testBit_lt_two_pow (Nat.lt_of_lt_of_le hc (Nat.pow_le_pow_right (by decide) (by omega)))] at this
      cases this
  refine ⟨p.1, by omega, by omega, by rw [show p.1 + d = p.1 + p.2 + 1 by omega]; omega, fun j' hj' e' => ?_⟩
  obtain ⟨r, r1, r2, r3⟩ := rowL_mem (e := e) (k := j') (by omega)
  have : p = r := (h.one p.2).2 p r p1 r1 rfl (by omega)
  subst this
  omega
theorem VE.lt {e : List (Nat × Nat)} {fr un k : Nat} (h : VE fr un e) : rowL e k ≤ 15 ∧ (rowL e k ≠ 0 → un.testBit (rowL e k - 1) = true) := by
  by_cases z : rowL e k = 0
  · rw [z]; exact ⟨by omega, fun y => absurd rfl y⟩
  · obtain ⟨p, p1, p2, p3⟩ := rowL_mem z
    have := h.mem p p1
    exact ⟨by omega, fun _ => by rw [p3, Nat.add_sub_cancel]; exact this.2.2.1⟩
/-! in order -/
def LX (c : Nat) (r t : Nat → Nat) : Prop := ∃ q, q < c ∧ (∀ k, k < q → r k = t k) ∧ r q < t q
theorem pw_flat {α : Type} {R : α → α → Prop} {g : Nat → List α} : ∀ (n m : Nat), (∀ i, m ≤ i → i < m + n → (g i).Pairwise R) → (∀ i j, m ≤ i → i < j → j < m + n → ∀ a ∈ g i, ∀ b ∈ g j, R a b) → ((List.range' m n).flatMap g).Pairwise R
  | 0, m, _, _ => List.Pairwise.nil
  | n + 1, m, h1, h2 => by
    rw [List.range'_succ, List.flatMap_cons]
    refine List.pairwise_append.mpr ⟨h1 m (by omega) (by omega), pw_flat n (m + 1) (fun i a b => h1 i (by omega) (by omega)) (fun i j a b d => h2 i j (by omega) b (by omega)), fun a ha b hb => ?_⟩
    obtain ⟨j, hj, hb⟩ := List.mem_flatMap.mp hb
    have := List.mem_range'_1.mp hj
    exact h2 m j (by omega) (by omega) (by omega) a ha b hb
theorem enuP_low {f : Nat → Nat} {j q fr un k : Nat} {e : List (Nat × Nat)} (h : e ∈ enuP f j q fr un) (hk : k < q) : rowL e k = 0 := by
  by_cases z : rowL e k = 0
  · exact z
  · obtain ⟨p, p1, p2, p3⟩ := rowL_mem z
    have := enuP_ge _ _ _ _ _ h p p1
    omega
theorem enuP_pw {f : Nat → Nat} {c : Nat} : ∀ (j q fr un : Nat), q + j ≤ c → (enuP f j q fr un).Pairwise (fun a b => LX c (rowL a) (rowL b))
  | 0, q, fr, un, _ => by
    rw [enuP]
    split
    · exact List.pairwise_singleton _ _
    · exact List.Pairwise.nil
  | j + 1, q, fr, un, hc => by
    rw [enuP]
    split
    · rw [List.range_eq_range']
      refine pw_flat 15 0 (fun i _ hi => ?_) (fun i k _ hik hk a ha b hb => ?_)
      · split
        · refine List.pairwise_map.mpr ?_
          refine List.Pairwise.imp_of_mem ?_ (enuP_pw (c := c) j (q + 1) (msk (msk fr (2 ^ q)) (2 ^ (q + i + 1))) (msk un (2 ^ i)) (by omega))
          rintro a b ha hb ⟨p, h1, h2, h3⟩
          have va := enuP_VE _ _ _ _ _ ha
          have vb := enuP_VE _ _ _ _ _ hb
          have hp : ¬ (p = q ∨ p = q + i + 1) := fun z => by
            have : rowL b p ≠ 0 := by omega
            have := vb.free this
            rw [msk1, msk1] at this
            simp only [Bool.and_eq_true, decide_eq_true_eq] at this
            rcases z with z | z
            · exact this.1.2 z
            · exact this.2 z
          refine ⟨p, h1, fun k hk => ?_, ?_⟩
          · rw [rowL, rowL]
            split
            · rfl
            · exact h2 k hk
          · rw [rowL, rowL, if_neg hp, if_neg hp]
            exact h3
        · exact List.Pairwise.nil
      · split at ha
        · split at hb
          · obtain ⟨a', a1, rfl⟩ := List.mem_map.mp ha
            obtain ⟨b', b1, rfl⟩ := List.mem_map.mp hb
            refine ⟨q, by omega, fun t ht => ?_, ?_⟩
            · rw [rowL, rowL, if_neg (by show ¬ (t = q ∨ t = q + i + 1); omega), if_neg (by show ¬ (t = q ∨ t = q + k + 1); omega), enuP_low a1 (by omega), enuP_low b1 (by omega)]
            · rw [rowL, rowL, if_pos (Or.inl rfl), if_pos (Or.inl rfl)]
              show i + 1 < k + 1
              omega
          · cases hb
        · cases ha
    · exact enuP_pw j (q + 1) fr un (by omega)
/-- sums over the same pairs are the same -/
theorem vl_perm {V : Nat × Nat → Int64} {a b : List (Nat × Nat)} (h : a.Perm b) : vl V a = vl V b := by
  induction h with
  | nil => rfl
  | cons p _ ih => rw [vl, vl, ih]
  | swap p q l => rw [vl, vl, vl, vl, Int64.add_assoc, Int64.add_assoc, Int64.add_comm (V p)]
  | trans _ _ h1 h2 => exact h1.trans h2
