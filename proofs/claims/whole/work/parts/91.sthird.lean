/-! third -/
def roN (r : Nat → Nat) (K : Nat) : Nat := if (laN r K = tkN r K ∨ (laN r K = tkN r K + 1 ∧ r (tkN r K - 1) = 0)) ∧ tkN r K = 2 * mxN r K then mxN r K else 0
theorem first_twin {r : Nat → Nat} {K d : Nat} (ht : twin r K) (hd : 1 ≤ d) (h : fst1 r d K ≠ 0) : r (fst1 r d K - 1) = d ∧ r (fst1 r d K + d - 1) = d ∧ fst1 r d K + d ≤ K := by
  obtain ⟨c1, c2⟩ := fst1_at K h
  have c3 := fst1_le (r := r) (d := d) K
  obtain ⟨p, p1, p2, p3, p4⟩ := ht d hd ⟨_, by omega, c1⟩
  have := p4 _ (by omega) c1
  have hp : p = fst1 r d K - 1 := by
    rcases this with z | z
    · exact z.symm
    · exact absurd p2 (c2 p (by omega))
  refine ⟨c1, ?_, by omega⟩
  rw [show fst1 r d K + d - 1 = p + d by omega]
  exact p3
theorem ro_ring {r : Nat → Nat} {K : Nat} (hr : ∀ j, j < K → r j ≤ 60) (ht : twin r K) (h : roN r K ≠ 0) : Ring (roN r K) (fun d => fst1 r d K) ∧ (∀ d, 1 ≤ d → d ≤ roN r K → fst1 r d K ≠ 0) ∧ roN r K ≤ 60 := by
  obtain ⟨q1, q2, q3⟩ := all_iff hr ht
  unfold roN at *
  split at h
  · rename_i hc
    rw [if_pos hc]
    have hall := q1.mp hc.2
    have hla := laN_le (r := r) K
    have key : ∀ d, 1 ≤ d → d ≤ mxN r K → r (fst1 r d K - 1) = d ∧ r (fst1 r d K + d - 1) = d ∧ fst1 r d K + d ≤ laN r K := fun d d1 d2 => by
      obtain ⟨a1, a2, a3⟩ := first_twin ht d1 (hall d d1 d2)
      have := hall d d1 d2
      refine ⟨a1, a2, ?_⟩
      by_cases z : fst1 r d K + d ≤ laN r K
      · exact z
      · have := laN_out (r := r) K (fst1 r d K + d - 1) (by omega) (by omega)
        omega
    refine ⟨⟨fun d d1 d2 => ?_, fun d e d1 d2 e1 e2 hne => ?_, ?_⟩, hall, q3⟩
    · have a := key d d1 d2
      have b := hall d d1 d2
      show 1 ≤ fst1 r d K ∧ fst1 r d K + d ≤ 2 * mxN r K + 1
      rcases hc.1 with z | z
      · omega
      · omega
    · have a := key d d1 d2
      have b := key e e1 e2
      have a0 := hall d d1 d2
      have b0 := hall e e1 e2
      refine ⟨fun z => ?_, fun z => ?_, fun z => ?_⟩
      · have a1 := a.1
        have z : fst1 r d K = fst1 r e K := z
        rw [z, b.1] at a1
        omega
      · have a1 := a.1
        have z : fst1 r d K = fst1 r e K + e := z
        rw [z, b.2.1] at a1
        omega
      · have a1 := a.2.1
        have z : fst1 r d K + d = fst1 r e K + e := z
        rw [z, b.2.1] at a1
        omega
    · rcases hc.1 with z | z
      · refine Or.inl fun d d1 d2 => ?_
        have a := key d d1 d2
        show fst1 r d K + d ≤ 2 * mxN r K
        omega
      · refine Or.inr fun d d1 d2 => ?_
        have a := key d d1 d2
        have a0 := hall d d1 d2
        have h0 := z.2
        rw [hc.2] at h0
        refine ⟨fun y => ?_, fun y => ?_⟩
        · have y : fst1 r d K = 2 * mxN r K := y
          have a1 := a.1
          rw [y, h0] at a1
          omega
        · have y : fst1 r d K + d = 2 * mxN r K := y
          have a1 := a.2.1
          rw [y, h0] at a1
          omega
  · exact absurd rfl h
theorem fm_neg : ∀ n, n < 61 → ∀ k, k < 361 → 1 ≤ k → k ≤ 6 * n → ¬ 0 ≤ ((nI 0 - nI k) ^^^ nI (6 * n + 1)) ∧ (nI 0 - nI k) / nI (6 * n + 1) = 0 := by decide +kernel
theorem fm {h : Hp} {n x y : Nat} (hn : n < 61) (hx : x < 6 * n + 1) (hy : y < 6 * n + 1) : f_J9_floorMod_7cf53 h (nI y - nI x) (nI (6 * n + 1)) = some (nI ((y + (6 * n + 1) - x) % (6 * n + 1))) := by
  have e3 := md_c (a := y + (6 * n + 1) - x) (N := 6 * n + 1) (by omega)
  unfold f_J9_floorMod_7cf53
  rw [if_neg (nI_ne0 (by omega) (by omega))]
  by_cases z : x ≤ y
  · have hxor : y - x ^^^ (6 * n + 1) < 2 ^ 31 := Nat.xor_lt_two_pow (by omega) (by omega)
    rw [pk_sub z, fb_xorI, if_pos (nI_pos' hxor), pk_rem (by omega) (by omega) (by omega), Nat.mod_eq_of_lt (by omega)]
    congr 2
    omega
  · have hk := fm_neg n hn (x - y) (by omega) (by omega) (by omega)
    have e0 : nI y - nI x = nI 0 - nI (x - y) := by
      rw [show nI x = nI y + nI (x - y) by rw [nI_add]; congr 1; omega, sub3, show nI y - nI y = nI 0 from Int32.sub_self _]
    have e1 : nI 0 - nI (x - y) - 0 * nI (6 * n + 1) = nI 0 - nI (x - y) := by rw [Int32.zero_mul, Int32.sub_zero]
    have e2 : nI 0 - nI (x - y) + nI (6 * n + 1) = nI (6 * n + 1 - (x - y)) := by
      rw [Int32.add_comm, ← pk_sub (a := 6 * n + 1) (b := x - y) (by omega), show nI 0 = (0 : Int32) from rfl, Int32.zero_sub, Int32.sub_eq_add_neg]
    rw [e0, if_neg hk.1, hk.2, e1]
    have hne : ¬ nI 0 - nI (x - y) = 0 := fun w => by
      have : nI (x - y) = 0 := by
        have := congrArg (fun v => v + nI (x - y)) w
        simp only [Int32.sub_add_cancel] at this
        rw [Int32.zero_add] at this
        rw [← this]
        rfl
      exact nI_ne0 (by omega) (by omega) this
    rw [if_neg hne, e2]
    congr 2
    omega
section THIRD
variable {n : Nat} {x : Nat → Nat → Int32} {w : Int64} {I : Nat → Nat → Int32} {L : Nat → Nat → Int64} {Q : Nat → Nat → Option Nat} {D : Nat → Bool} {r : Nat → Nat}
def ringEnd (tk la mx : Nat) (r : Nat → Nat) : Int32 := if mx = 0 then NO else if tk = 2 * mx then (if la = tk then nI mx else if la = tk + 1 ∧ r (tk - 1) = 0 then nI mx else NO) else NO
theorem c_ring_l {K : Nat} (hK : K ≤ 121) (hr : ∀ j, j < K → r j ≤ 60) (hx : x 60 2 = nI K) (hI : ∀ j, j < K → I 61 (j + 1) = nI (r j)) : ∀ (j u fu : Nat), u + j = K → j < fu → f_X4_ringOrder_9 fu 60 (nI (tkN r u)) (nI (laN r u)) (nI (mxN r u)) (nI (u + 1)) (MM n x w I L Q D) = some (ringEnd (tkN r K) (laN r K) (mxN r K) r)
  | 0, u, fu, h, hf => by
    obtain ⟨fu, rfl⟩ : ∃ n9, fu = n9 + 1 := ⟨fu - 1, by omega⟩
    obtain rfl : u = K := by omega
    have hmx : mxN r u ≤ 60 := by
      by_cases z : mxN r u = 0
      · omega
      · obtain ⟨j, a, b⟩ := mxN_at u z
        have := hr j a
        omega
    have htk : tkN r u ≤ u := fb_ct_le _ _
    have hla := laN_le (r := r) u
    unfold ringEnd
    rw [f_X4_ringOrder_9, g_60_2, ob_s, hx, if_pos (nI_lt (by omega) (by omega)), liN]
    by_cases z0 : mxN r u = 0
    · rw [if_pos (show nI (mxN r u) = 0 by rw [z0]; rfl), if_pos z0]
    · rw [if_neg (nI_ne0 (by omega) (by omega)), if_neg z0, if_neg (show ¬ (60 : Int32) < nI (mxN r u) from nI_nlt (a := 60) hmx (by decide)), show (2 : Int32) * nI (mxN r u) = nI (2 * mxN r u) from pk_mul 2 _]
      by_cases z1 : tkN r u = 2 * mxN r u
      · rw [if_pos (show nI (tkN r u) = nI (2 * mxN r u) by rw [z1]), if_pos z1, nI_1]
        by_cases z2 : laN r u = tkN r u
        · rw [if_pos (show nI (laN r u) = nI (tkN r u) by rw [z2]), if_pos z2, if_neg (show ¬ nI (laN r u) = nI (tkN r u + 1) from fun y => by have := (nI_eq (by omega) (by omega)).mp y; omega), if_neg z10]
        · rw [if_neg (show ¬ nI (laN r u) = nI (tkN r u) from fun y => z2 ((nI_eq (by omega) (by omega)).mp y)), if_neg z2]
          by_cases z3 : laN r u = tkN r u + 1
          · have hi := hI (tkN r u - 1) (by omega)
            rw [show tkN r u - 1 + 1 = tkN r u by omega] at hi
            have hrt := hr (tkN r u - 1) (by omega)
            rw [if_pos (show nI (laN r u) = nI (tkN r u + 1) by rw [z3]), r_60_0, ob_s, a_at (a := 61) (len := 122) rfl (Or.inl rfl) (by omega) (by decide), ob_s, hi]
            by_cases z4 : r (tkN r u - 1) = 0
            · rw [if_pos (show nI (r (tkN r u - 1)) = 0 by rw [z4]; rfl), if_pos z00, if_neg z10, if_pos ⟨z3, z4⟩]
            · rw [if_neg (nI_ne0 (by omega) (by omega)), if_pos z00, if_pos z00, if_neg (fun y => z4 y.2)]
          · rw [if_neg (show ¬ nI (laN r u) = nI (tkN r u + 1) from fun y => z3 ((nI_eq (by omega) (by omega)).mp y)), if_pos z00, if_pos z00, if_neg (fun y => z3 y.1)]
      · rw [if_neg (show ¬ nI (tkN r u) = nI (2 * mxN r u) from fun y => z1 ((nI_eq (by omega) (by omega)).mp y)), if_neg z1]
  | j + 1, u, fu, h, hf => by
    obtain ⟨fu, rfl⟩ : ∃ n9, fu = n9 + 1 := ⟨fu - 1, by omega⟩
    have ih := c_ring_l hK hr hx hI j (u + 1) fu (by omega) (by omega)
    have hru := hr u (by omega)
    have hmx : mxN r u ≤ 60 := by
      by_cases z : mxN r u = 0
      · omega
      · obtain ⟨i, a, b⟩ := mxN_at u z
        have := hr i (by omega)
        omega
    unfold tkN at ih
    rw [fb_ct_succ, laN, mxN] at ih
    rw [f_X4_ringOrder_9, g_60_2, ob_s, hx, if_neg (nI_nlt (by omega) (by omega)), r_60_0, ob_s, a_at (a := 61) (len := 122) rfl (Or.inl rfl) (by omega) (by decide), ob_s, hI u (by omega)]
    by_cases z : r u = 0
    · rw [if_neg (by simp [z]), if_neg (by simp [z]), if_neg (by simp [z]), Nat.add_zero] at ih
      rw [if_pos (show nI (r u) = 0 by rw [z]; rfl), nI_1]
      exact ih
    · rw [if_pos (by simpa using z), if_pos z, if_pos z] at ih
      rw [if_neg (nI_ne0 (by omega) (by omega)), ob_s, a_at (a := 61) (len := 122) rfl (Or.inl rfl) (by omega) (by decide), ob_s, hI u (by omega), nI_1, nI_1]
      have emx : (if nI (mxN r u) < nI (r u) then nI (r u) else nI (mxN r u)) = nI (if mxN r u < r u then r u else mxN r u) := by
        by_cases y : mxN r u < r u
        · rw [if_pos (nI_lt y (by omega)), if_pos y]
        · rw [if_neg (nI_nlt (by omega) (by omega)), if_neg y]
      rw [emx]
      exact ih
theorem c_ring {m : Option Nat} (hk : LKok m r) (hx : LKC x I m r) : f_X4_ringOrder (MM n x w I L Q D) 60 = some (if roN r (lK m) = 0 then NO else nI (roN r (lK m))) := by
  have hle := hk.1
  unfold f_X4_ringOrder
  cases m with
  | none =>
    rw [f_X4_ringOrder_9, g_60_2, ob_s, hx.1, if_pos (show lI none < 1 by decide), if_pos z00]
    rfl
  | some K =>
    have := c_ring_l (n := n) (w := w) (L := L) (Q := Q) (D := D) (r := r) (K := K) hle hk.2.1 hx.1 hx.2.1 K 0 4096 (by omega) (by have hle : K ≤ 121 := hle; omega)
    refine Eq.trans this ?_
    congr 1
    show ringEnd (tkN r K) (laN r K) (mxN r K) r = if roN r K = 0 then NO else nI (roN r K)
    by_cases C : (laN r K = tkN r K ∨ (laN r K = tkN r K + 1 ∧ r (tkN r K - 1) = 0)) ∧ tkN r K = 2 * mxN r K
    · have hro : roN r K = mxN r K := if_pos C
      rw [hro]
      unfold ringEnd
      by_cases z0 : mxN r K = 0
      · rw [if_pos z0, if_pos z0]
      · rw [if_neg z0, if_neg z0, if_pos C.2]
        by_cases z2 : laN r K = tkN r K
        · rw [if_pos z2]
        · rw [if_neg z2, if_pos (C.1.resolve_left z2)]
    · have hro : roN r K = 0 := if_neg C
      rw [hro, if_pos rfl]
      unfold ringEnd
      by_cases z0 : mxN r K = 0
      · rw [if_pos z0]
      · rw [if_neg z0]
        by_cases z1 : tkN r K = 2 * mxN r K
        · rw [if_pos z1, if_neg (fun y => C ⟨Or.inl y, z1⟩), if_neg (fun y => C ⟨Or.inr y, z1⟩)]
        · rw [if_neg z1]
/-! the model's order -/
theorem m_ord71 {m : Option Nat} {N : Nat} (hk : LKok m r) (hx : LKM x I m r) (hN : N ≤ 61) : ∀ (j u fu : Nat), u + j = N + 1 → 1 ≤ u → j < fu → ((∀ d, u ≤ d → d ≤ N → fst1 r d (lK m) ≠ 0) → f_X7_orderOf_71 fu 64 (nI N) (nI u) (MM n x w I L Q D) = some (nI N)) ∧ ((¬ ∀ d, u ≤ d → d ≤ N → fst1 r d (lK m) ≠ 0) → f_X7_orderOf_71 fu 64 (nI N) (nI u) (MM n x w I L Q D) = some 0)
  | 0, u, fu, h, h1, hf => by
    obtain ⟨fu, rfl⟩ : ∃ n9, fu = n9 + 1 := ⟨fu - 1, by omega⟩
    refine ⟨fun _ => ?_, fun z => absurd (fun d d1 d2 => by omega) z⟩
    rw [f_X7_orderOf_71, if_pos (nI_lt (by omega) (by omega))]
  | j + 1, u, fu, h, h1, hf => by
    obtain ⟨fu, rfl⟩ : ∃ n9, fu = n9 + 1 := ⟨fu - 1, by omega⟩
    have ih := m_ord71 hk hx hN j (u + 1) fu (by omega) (by omega) (by omega)
    have hfl := fst1_le (r := r) (d := u) (lK m)
    have hle := hk.1
    by_cases z : fst1 r u (lK m) = 0
    · refine ⟨fun y => absurd z (y u (Nat.le_refl _) (by omega)), fun _ => ?_⟩
      rw [f_X7_orderOf_71, if_neg (nI_nlt (by omega) (by omega)), o_64, if_pos rfl, m_firstOf hk hx (by omega), ob_s, if_pos (Or.inr z), if_pos (show NO = -1 from rfl)]
    · have e : f_X7_orderOf_71 (fu + 1) 64 (nI N) (nI u) (MM n x w I L Q D) = f_X7_orderOf_71 fu 64 (nI N) (nI (u + 1)) (MM n x w I L Q D) := by
        rw [f_X7_orderOf_71, if_neg (nI_nlt (by omega) (by omega)), o_64, if_pos rfl, show f_X7_firstOf (MM n x w I L Q D) 64 (nI u) = some (nI (fst1 r u (lK m))) by rw [m_firstOf hk hx (by omega), if_neg (fun y => y.elim (fun v => by omega) z)], ob_s, if_neg (show ¬ nI (fst1 r u (lK m)) = -1 from nI_NO (by omega)), nI_1]
      rw [e]
      exact ⟨fun y => ih.1 fun d d1 d2 => y d (by omega) d2, fun y => ih.2 fun q => y fun d d1 d2 => by
        by_cases v : d = u
        · rw [v]; exact z
        · exact q d (by omega) d2⟩
theorem m_ord_l {K : Nat} (hk : LKok (some K) r) (hx : LKM x I (some K) r) : ∀ (j u fu : Nat), u + j = K → j < fu → f_X7_orderOf_6 fu 64 (nI (tkN r u)) (nI (laN r u)) (nI u) (MM n x w I L Q D) = some (nI (roN r K))
  | 0, u, fu, h, hf => by
    obtain ⟨fu, rfl⟩ : ∃ n9, fu = n9 + 1 := ⟨fu - 1, by omega⟩
    obtain rfl : u = K := by omega
    have hK : u ≤ 121 := hk.1
    have htk : tkN r u ≤ u := fb_ct_le _ _
    have hla := laN_le (r := r) u
    obtain ⟨q1, q2, q3⟩ := all_iff hk.2.1 hk.2.2
    have h28 : x 64 28 = nI u := hx.1
    have q1 : tkN r u = 2 * mxN r u ↔ ∀ d, 1 ≤ d → d ≤ mxN r u → fst1 r d u ≠ 0 := q1
    have q2 : (∀ d, 1 ≤ d → d ≤ tkN r u / 2 → fst1 r d u ≠ 0) ↔ ∀ d, 1 ≤ d → d ≤ mxN r u → fst1 r d u ≠ 0 := q2
    have q3 : mxN r u ≤ 60 := q3
    have tail : (laN r u = tkN r u ∨ (laN r u = tkN r u + 1 ∧ r (tkN r u - 1) = 0)) → f_X7_orderOf_71 4096 64 (nI (tkN r u) / 2) 1 (MM n x w I L Q D) = some (nI (roN r u)) := fun hH => by
      have e2 : nI (tkN r u) / (2 : Int32) = nI (tkN r u / 2) := pk_div (d := 2) (by omega) (by decide) (by decide)
      have := m_ord71 (n := n) (w := w) (L := L) (Q := Q) (D := D) (N := tkN r u / 2) hk hx (by omega) (tkN r u / 2) 1 4096 (by omega) (by omega) (by omega)
      rw [e2]
      show f_X7_orderOf_71 4096 64 (nI (tkN r u / 2)) (nI 1) _ = _
      by_cases z : ∀ d, 1 ≤ d → d ≤ tkN r u / 2 → fst1 r d u ≠ 0
      · rw [this.1 z]
        have zz := q1.mpr (q2.mp z)
        unfold roN
        rw [if_pos ⟨hH, zz⟩]
        congr 2
        omega
      · rw [this.2 z]
        unfold roN
        rw [if_neg (fun y => z (q2.mpr (q1.mp y.2)))]
        rfl
    rw [f_X7_orderOf_6, g_64_28, ob_s, h28, if_pos (Int32.le_refl _)]
    by_cases z2 : laN r u = tkN r u
    · rw [if_pos (show nI (laN r u) = nI (tkN r u) by rw [z2])]
      exact tail (Or.inl z2)
    · rw [if_neg (show ¬ nI (laN r u) = nI (tkN r u) from fun y => z2 ((nI_eq (by omega) (by omega)).mp y)), nI_1]
      by_cases z3 : laN r u = tkN r u + 1
      · have hpos := laN_pos (r := r) u (by omega)
        have hi := hx.2 (tkN r u - 1) (show tkN r u - 1 < u by omega)
        have hrt := hk.2.1 (tkN r u - 1) (show tkN r u - 1 < u by omega)
        rw [if_pos (show nI (laN r u) = nI (tkN r u + 1) by rw [z3]), r_64_27, ob_s, show nI (tkN r u) - 1 = nI (tkN r u - 1) from pk_sub (b := 1) (by omega), a_at (a := 78) (len := 121) rfl (Or.inl rfl) (by omega) (by decide), ob_s, hi]
        by_cases z4 : r (tkN r u - 1) = 0
        · rw [if_pos (show nI (r (tkN r u - 1)) = 0 by rw [z4]; rfl)]
          exact tail (Or.inr ⟨z3, z4⟩)
        · rw [if_neg (nI_ne0 (by omega) (by omega))]
          unfold roN
          rw [if_neg (fun y => by rcases y.1 with v | v; exact z2 v; exact z4 v.2)]
          rfl
      · rw [if_neg (show ¬ nI (laN r u) = nI (tkN r u + 1) from fun y => z3 ((nI_eq (by omega) (by omega)).mp y))]
        unfold roN
        rw [if_neg (fun y => by rcases y.1 with v | v; exact z2 v; exact z3 v.1)]
        rfl
  | j + 1, u, fu, h, hf => by
    obtain ⟨fu, rfl⟩ : ∃ n9, fu = n9 + 1 := ⟨fu - 1, by omega⟩
    have hK : K ≤ 121 := hk.1
    have ih := m_ord_l hk hx j (u + 1) fu (by omega) (by omega)
    have hru := hk.2.1 u (show u < K by omega)
    have h28 : x 64 28 = nI K := hx.1
    have hi := hx.2 u (show u < K by omega)
    unfold tkN at ih
    rw [fb_ct_succ, laN] at ih
    rw [f_X7_orderOf_6, g_64_28, ob_s, h28, if_neg (nI_ge (by omega) (by omega)), r_64_27, ob_s, a_at (a := 78) (len := 121) rfl (Or.inl rfl) (by omega) (by decide), ob_s, hi]
    by_cases z : r u = 0
    · rw [if_neg (by simp [z]), if_neg (by simp [z]), Nat.add_zero] at ih
      rw [if_pos (show nI (r u) = 0 by rw [z]; rfl), nI_1]
      exact ih
    · rw [if_pos (by simpa using z), if_pos z] at ih
      rw [if_neg (nI_ne0 (by omega) (by omega)), nI_1, nI_1]
      exact ih
theorem m_order {m : Option Nat} (hk : LKok m r) (hx : LKM x I m r) : f_X7_orderOf (MM n x w I L Q D) 64 = some (nI (roN r (lK m))) := by
  unfold f_X7_orderOf
  cases m with
  | none =>
    rw [f_X7_orderOf_6, g_64_28, ob_s, hx.1, if_pos (show lI none ≤ 0 by decide), if_pos z00, f_X7_orderOf_71, if_pos (by decide)]
    rfl
  | some K => exact m_ord_l hk hx K 0 4096 (by omega) (by have : K ≤ 121 := hk.1; omega)
end THIRD
