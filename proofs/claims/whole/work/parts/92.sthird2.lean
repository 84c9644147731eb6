/-! third: both -/
theorem ite3 {α : Type} {p q r : Prop} [Decidable p] [Decidable q] [Decidable r] {a b : α} : (if p then a else if q then a else if r then a else b) = if p ∨ q ∨ r then a else b := by
  by_cases h1 : p
  · rw [if_pos h1, if_pos (Or.inl h1)]
  · by_cases h2 : q
    · rw [if_neg h1, if_pos h2, if_pos (Or.inr (Or.inl h2))]
    · by_cases h3 : r
      · rw [if_neg h1, if_neg h2, if_pos h3, if_pos (Or.inr (Or.inr h3))]
      · rw [if_neg h1, if_neg h2, if_neg h3, if_neg (fun z => by rcases z with z | z | z; exact h1 z; exact h2 z; exact h3 z)]
theorem f10 : ((1 : Int32) = 0) = False := by decide
theorem f00 : ((0 : Int32) = 0) = True := by decide
section THIRD2
variable {n : Nat} {x : Nat → Nat → Int32} {w : Int64} {I : Nat → Nat → Int32} {L : Nat → Nat → Int64} {Q : Nat → Nat → Option Nat} {D : Nat → Bool}
theorem t78_step {k56 : Nat → Int32 → Int32 → Int32 → Int32 → Int32 → Hp → Option (Int32 × Hp)} {fu X Y N d o b ro : Nat} {h : Hp} (hN : N < 1000) (hN0 : 0 < N) (hb : b < N) (hd : d < N) (ho : o < N) (hX : X < N) (hY : Y < N) : f_X7_third_78 k56 (fu + 1) 64 (nI X) (nI Y) (nI ro) (nI N) (nI d) (nI o) (nI b) h = if (b = X ∨ (b + d) % N = X ∨ (b + o) % N = X) ∧ (b = Y ∨ (b + d) % N = Y ∨ (b + o) % N = Y) then some (nI (b + (b + d) % N + (b + o) % N) - nI X - nI Y, h) else f_X7_third_78 k56 fu 64 (nI X) (nI Y) (nI ro) (nI N) (nI d) (nI o) (nI (b + 1)) h := by
  have hc : (b + d) % N < N := Nat.mod_lt _ hN0
  have he : (b + o) % N < N := Nat.mod_lt _ hN0
  have e1 : (nI b + nI d) - (nI b + nI d) / nI N * nI N = nI ((b + d) % N) := by rw [nI_add]; exact pk_rem (by omega) hN0 (by omega)
  have e2 : (nI b + nI o) - (nI b + nI o) / nI N * nI N = nI ((b + o) % N) := by rw [nI_add]; exact pk_rem (by omega) hN0 (by omega)
  have q : ∀ {i j : Nat}, i < N → j < N → (nI i = nI j) = (i = j) := fun hi hj => propext (nI_eq (by omega) (by omega))
  rw [f_X7_third_78, if_neg (nI_ge hb (by omega))]
  simp only [if_neg (nI_ne0 hN0 (by omega)), e1, e2, f10, f00, if_false, if_true, ite3, ite_self, q hb hX, q hc hX, q he hX, q hb hY, q hc hY, q he hY]
  simp only [nI_add, nI_1]
  by_cases h1 : b = X ∨ (b + d) % N = X ∨ (b + o) % N = X
  · by_cases h2 : b = Y ∨ (b + d) % N = Y ∨ (b + o) % N = Y
    · rw [if_pos h1, if_pos h2, if_pos ⟨h1, h2⟩]
    · rw [if_pos h1, if_neg h2, if_neg (fun z => h2 z.2)]
  · rw [if_neg h1, if_neg (fun z => h1 z.1)]
theorem t78 {k56 : Nat → Int32 → Int32 → Int32 → Int32 → Int32 → Hp → Option (Int32 × Hp)} {X Y N d o v ro : Nat} {h : Hp} (hN : N < 1000) (hN0 : 0 < N) (hd : d < N) (ho : o < N) (hX : X < N) (hY : Y < N) (hv : ∀ b, b < N → hitT X Y N d o b → b + (b + d) % N + (b + o) % N = v + X + Y) : ∀ (j b fu : Nat), b + j = N → j < fu → ((∀ i, b ≤ i → i < N → ¬ hitT X Y N d o i) → f_X7_third_78 k56 fu 64 (nI X) (nI Y) (nI ro) (nI N) (nI d) (nI o) (nI b) h = k56 64 (nI X) (nI Y) (nI ro) (nI N) (nI (d + 1)) h) ∧ ((∃ i, b ≤ i ∧ i < N ∧ hitT X Y N d o i) → f_X7_third_78 k56 fu 64 (nI X) (nI Y) (nI ro) (nI N) (nI d) (nI o) (nI b) h = some (nI v, h))
  | 0, b, fu, hb, hf => by
    obtain ⟨fu, rfl⟩ : ∃ n9, fu = n9 + 1 := ⟨fu - 1, by omega⟩
    refine ⟨fun _ => ?_, fun ⟨i, a, b', _⟩ => by omega⟩
    rw [f_X7_third_78, if_pos (nI_le (by omega) (by omega)), nI_1]
  | j + 1, b, fu, hb, hf => by
    obtain ⟨fu, rfl⟩ : ∃ n9, fu = n9 + 1 := ⟨fu - 1, by omega⟩
    have ih := t78 (k56 := k56) (ro := ro) (h := h) hN hN0 hd ho hX hY hv j (b + 1) fu (by omega) (by omega)
    rw [t78_step hN hN0 (by omega) hd ho hX hY]
    by_cases z : hitT X Y N d o b
    · refine ⟨fun y => absurd z (y b (Nat.le_refl _) (by omega)), fun _ => ?_⟩
      have e := hv b (by omega) z
      rw [if_pos (show (b = X ∨ (b + d) % N = X ∨ (b + o) % N = X) ∧ (b = Y ∨ (b + d) % N = Y ∨ (b + o) % N = Y) from z), e, pk_sub (by omega), pk_sub (by omega)]
      congr 3
      omega
    · rw [if_neg (show ¬ ((b = X ∨ (b + d) % N = X ∨ (b + o) % N = X) ∧ (b = Y ∨ (b + d) % N = Y ∨ (b + o) % N = Y)) from z)]
      refine ⟨fun y => ih.1 fun i i1 i2 => y i (by omega) i2, fun ⟨i, i1, i2, i3⟩ => ih.2 ⟨i, ?_, i2, i3⟩⟩
      have : i ≠ b := fun q => z (by rw [← q]; exact i3)
      omega
theorem t56 {m : Option Nat} {r : Nat → Nat} {X Y ro v : Nat} (hk : LKok m r) (hx : LKM x I m r) (hro : ro ≤ 60) (hro0 : 0 < ro) (hR : Ring ro (fun d => fst1 r d (lK m))) (hall : ∀ d, 1 ≤ d → d ≤ ro → fst1 r d (lK m) ≠ 0) (hX : X < 6 * ro + 1) (hY : Y < 6 * ro + 1) (hv : ∀ d b, 1 ≤ d → d ≤ ro → b < 6 * ro + 1 → hitT X Y (6 * ro + 1) d (ro + fst1 r d (lK m) + d) b → b + (b + d) % (6 * ro + 1) + (b + (ro + fst1 r d (lK m) + d)) % (6 * ro + 1) = v + X + Y) : ∀ (j u fu : Nat), u + j = ro + 1 → 1 ≤ u → j < fu →
    ((∀ d b, u ≤ d → d ≤ ro → b < 6 * ro + 1 → ¬ hitT X Y (6 * ro + 1) d (ro + fst1 r d (lK m) + d) b) → f_X7_third_56 fu 64 (nI X) (nI Y) (nI ro) (nI (6 * ro + 1)) (nI u) (MM n x w I L Q D) = some (NO, MM n x w I L Q D)) ∧ ((∃ d b, u ≤ d ∧ d ≤ ro ∧ b < 6 * ro + 1 ∧ hitT X Y (6 * ro + 1) d (ro + fst1 r d (lK m) + d) b) → f_X7_third_56 fu 64 (nI X) (nI Y) (nI ro) (nI (6 * ro + 1)) (nI u) (MM n x w I L Q D) = some (nI v, MM n x w I L Q D))
  | 0, u, fu, hu, h1, hf => by
    obtain ⟨fu, rfl⟩ : ∃ n9, fu = n9 + 1 := ⟨fu - 1, by omega⟩
    refine ⟨fun _ => ?_, fun ⟨d, b, a, b', _⟩ => by omega⟩
    rw [f_X7_third_56, if_pos (nI_lt (by omega) (by omega))]
    rfl
  | j + 1, u, fu, hu, h1, hf => by
    obtain ⟨fu, rfl⟩ : ∃ n9, fu = n9 + 1 := ⟨fu - 1, by omega⟩
    have ih := t56 hk hx hro hro0 hR hall hX hY hv j (u + 1) fu (by omega) (by omega) (by omega)
    have hu2 := hR.1 u h1 (by omega)
    have hu2 : 1 ≤ fst1 r u (lK m) ∧ fst1 r u (lK m) + u ≤ 2 * ro + 1 := hu2
    have hl := hk.1
    have hfl := fst1_le (r := r) (d := u) (lK m)
    have e0 : f_X7_third_56 (fu + 1) 64 (nI X) (nI Y) (nI ro) (nI (6 * ro + 1)) (nI u) (MM n x w I L Q D) = f_X7_third_78 (f_X7_third_56 fu) 4096 64 (nI X) (nI Y) (nI ro) (nI (6 * ro + 1)) (nI u) (nI (ro + fst1 r u (lK m) + u)) (nI 0) (MM n x w I L Q D) := by
      rw [f_X7_third_56, if_neg (nI_nlt (by omega) (by omega)), o_64, if_pos rfl, show f_X7_firstOf (MM n x w I L Q D) 64 (nI u) = some (nI (fst1 r u (lK m))) by rw [m_firstOf hk hx (by omega), if_neg (fun y => y.elim (fun v => by omega) (hall u h1 (by omega)))], ob_s, nI_add, nI_add]
      rfl
    have t := t78 (k56 := f_X7_third_56 fu) (ro := ro) (h := MM n x w I L Q D) (X := X) (Y := Y) (N := 6 * ro + 1) (d := u) (o := ro + fst1 r u (lK m) + u) (v := v) (by omega) (by omega) (by omega) (by omega) hX hY (fun b hb hh => hv u b h1 (by omega) hb hh) (6 * ro + 1) 0 4096 (by omega) (by omega)
    rw [e0]
    by_cases z : ∃ i, 0 ≤ i ∧ i < 6 * ro + 1 ∧ hitT X Y (6 * ro + 1) u (ro + fst1 r u (lK m) + u) i
    · refine ⟨fun y => ?_, fun _ => t.2 z⟩
      obtain ⟨i, _, i2, i3⟩ := z
      exact absurd i3 (y u i (Nat.le_refl _) (by omega) i2)
    · have hno : ∀ i, 0 ≤ i → i < 6 * ro + 1 → ¬ hitT X Y (6 * ro + 1) u (ro + fst1 r u (lK m) + u) i := fun i i1 i2 i3 => z ⟨i, i1, i2, i3⟩
      rw [t.1 hno]
      refine ⟨fun y => ih.1 fun d b d1 d2 hb => y d b (by omega) d2 hb, fun ⟨d, b, d1, d2, hb, hh⟩ => ih.2 ⟨d, b, ?_, d2, hb, hh⟩⟩
      have : d ≠ u := fun q => hno b (Nat.zero_le _) hb (by rw [← q]; exact hh)
      omega
/-! the class: along -/
theorem c_along_l {l : Nat → Nat} {ro X s : Nat} (hro : ro ≤ 60) (hR : Ring ro l) (hX : X < 6 * ro + 1) (hs : s < 6 * ro + 1) (hl : ∀ d, 1 ≤ d → d ≤ ro → I 62 d = nI (l d)) : ∀ (j u fu : Nat), u + j = ro + 1 → 1 ≤ u → j < fu →
    ((∀ d, u ≤ d → d ≤ ro → ¬ mT ro l s d) → f_X4_thirdAlong_21 fu 60 (nI X) (nI ro) (nI (6 * ro + 1)) (nI s) (nI u) (MM n x w I L Q D) = some NO) ∧ (∀ d, u ≤ d → d ≤ ro → mT ro l s d → f_X4_thirdAlong_21 fu 60 (nI X) (nI ro) (nI (6 * ro + 1)) (nI s) (nI u) (MM n x w I L Q D) = some (nI (vT ro l X s d)))
  | 0, u, fu, hu, h1, hf => by
    obtain ⟨fu, rfl⟩ : ∃ n9, fu = n9 + 1 := ⟨fu - 1, by omega⟩
    refine ⟨fun _ => ?_, fun d a b => by omega⟩
    rw [f_X4_thirdAlong_21, if_pos (nI_lt (by omega) (by omega))]
    rfl
  | j + 1, u, fu, hu, h1, hf => by
    obtain ⟨fu, rfl⟩ : ∃ n9, fu = n9 + 1 := ⟨fu - 1, by omega⟩
    have ih := c_along_l hro hR hX hs hl j (u + 1) fu (by omega) (by omega) (by omega)
    have hu2 := hR.1 u h1 (by omega)
    have n0 : ¬ nI (6 * ro + 1) = 0 := nI_ne0 (by omega) (by omega)
    have start : f_X4_thirdAlong_21 (fu + 1) 60 (nI X) (nI ro) (nI (6 * ro + 1)) (nI s) (nI u) (MM n x w I L Q D) = if s = u ∨ s = ro + l u + u ∨ s = ro + l u then some (nI (vT ro l X s u)) else f_X4_thirdAlong_21 fu 60 (nI X) (nI ro) (nI (6 * ro + 1)) (nI s) (nI (u + 1)) (MM n x w I L Q D) := by
      unfold vT
      rw [f_X4_thirdAlong_21, if_neg (nI_nlt (by omega) (by omega)), if_neg (show ¬ (60 : Int32) < nI u from nI_nlt (a := 60) (by omega) (by decide)), r_60_1, ob_s, a_at (a := 62) (len := 61) rfl (Or.inl rfl) (by omega) (by decide), ob_s, hl u h1 (by omega), nI_add, nI_add]
      by_cases z1 : s = u
      · rw [if_pos (show nI s = nI u by rw [z1]), if_neg n0, if_pos (Or.inl z1), if_pos z1, nI_add, pk_rem (by omega) (by omega) (by omega)]
      · rw [if_neg (show ¬ nI s = nI u from fun y => z1 ((nI_eq (by omega) (by omega)).mp y))]
        by_cases z2 : s = ro + l u + u
        · rw [if_pos (show nI s = nI (ro + l u + u) by rw [z2]), if_neg n0, if_pos (Or.inr (Or.inl z2)), if_neg z1, if_pos z2, nI_add, pk_rem (by omega) (by omega) (by omega)]
        · rw [if_neg (show ¬ nI s = nI (ro + l u + u) from fun y => z2 ((nI_eq (by omega) (by omega)).mp y)), pk_sub (show u ≤ ro + l u + u by omega), show ro + l u + u - u = ro + l u by omega]
          by_cases z3 : s = ro + l u
          · rw [if_pos (show nI s = nI (ro + l u) by rw [z3]), fm (by omega) (by omega) hX, ob_s, if_pos (Or.inr (Or.inr z3)), if_neg z1, if_neg z2]
          · rw [if_neg (show ¬ nI s = nI (ro + l u) from fun y => z3 ((nI_eq (by omega) (by omega)).mp y)), if_neg (fun y => by rcases y with y | y | y; exact z1 y; exact z2 y; exact z3 y), nI_1]
    rw [start]
    by_cases z : mT ro l s u
    · rw [if_pos (show s = u ∨ s = ro + l u + u ∨ s = ro + l u from z)]
      refine ⟨fun y => absurd z (y u (Nat.le_refl _) (by omega)), fun d d1 d2 hm => ?_⟩
      have : d = u := ring_one hR (by omega) d2 h1 (by omega) hm z
      rw [this]
    · rw [if_neg (show ¬ (s = u ∨ s = ro + l u + u ∨ s = ro + l u) from z)]
      refine ⟨fun y => ih.1 fun d d1 d2 => y d (by omega) d2, fun d d1 d2 hm => ih.2 d ?_ d2 hm⟩
      have : d ≠ u := fun q => z (by rw [← q]; exact hm)
      omega
theorem c_along {l : Nat → Nat} {ro X Y : Nat} (hro : ro ≤ 60) (hR : Ring ro l) (hX : X < 6 * ro + 1) (hY : Y < 6 * ro + 1) (hl : ∀ d, 1 ≤ d → d ≤ ro → I 62 d = nI (l d)) : ((∀ d, 1 ≤ d → d ≤ ro → ¬ mT ro l ((Y + (6 * ro + 1) - X) % (6 * ro + 1)) d) → f_X4_thirdAlong (MM n x w I L Q D) 60 (nI X) (nI Y) (nI ro) = some NO) ∧ (∀ d, 1 ≤ d → d ≤ ro → mT ro l ((Y + (6 * ro + 1) - X) % (6 * ro + 1)) d → f_X4_thirdAlong (MM n x w I L Q D) 60 (nI X) (nI Y) (nI ro) = some (nI (vT ro l X ((Y + (6 * ro + 1) - X) % (6 * ro + 1)) d))) := by
  have hs : (Y + (6 * ro + 1) - X) % (6 * ro + 1) < 6 * ro + 1 := Nat.mod_lt _ (by omega)
  have := c_along_l (n := n) (x := x) (w := w) (L := L) (Q := Q) (D := D) hro hR hX hs hl ro 1 4096 (by omega) (by omega) (by omega)
  have e : f_X4_thirdAlong (MM n x w I L Q D) 60 (nI X) (nI Y) (nI ro) = f_X4_thirdAlong_21 4096 60 (nI X) (nI ro) (nI (6 * ro + 1)) (nI ((Y + (6 * ro + 1) - X) % (6 * ro + 1))) (nI 1) (MM n x w I L Q D) := by
    unfold f_X4_thirdAlong
    rw [show (6 : Int32) * nI ro + 1 = nI (6 * ro + 1) by rw [show (6 : Int32) * nI ro = nI (6 * ro) from pk_mul 6 ro]; exact nI_1 _, fm (by omega) hX hY, ob_s]
    rfl
  rw [e]
  exact this
end THIRD2
theorem vT_lt {n x s d : Nat} {l : Nat → Nat} : vT n l x s d < 6 * n + 1 := by
  unfold vT
  split
  · exact Nat.mod_lt _ (by omega)
  · split
    · exact Nat.mod_lt _ (by omega)
    · exact Nat.mod_lt _ (by omega)
/-- what third answers of a row -/
theorem third_ans {r : Nat → Nat} {K X Y : Nat} (hr : ∀ j, j < K → r j ≤ 60) (ht : twin r K) (h0 : roN r K ≠ 0) (hX : X < 6 * roN r K + 1) (hY : Y < 6 * roN r K + 1) (hne : X ≠ Y) :
    (∃ v, v < 6 * roN r K + 1 ∧ (∃ d b, 1 ≤ d ∧ d ≤ roN r K ∧ b < 6 * roN r K + 1 ∧ hitT X Y (6 * roN r K + 1) d (roN r K + fst1 r d K + d) b) ∧ (∀ d b, 1 ≤ d → d ≤ roN r K → b < 6 * roN r K + 1 → hitT X Y (6 * roN r K + 1) d (roN r K + fst1 r d K + d) b → b + (b + d) % (6 * roN r K + 1) + (b + (roN r K + fst1 r d K + d)) % (6 * roN r K + 1) = v + X + Y) ∧
      ((∃ d, 1 ≤ d ∧ d ≤ roN r K ∧ mT (roN r K) (fun d => fst1 r d K) ((Y + (6 * roN r K + 1) - X) % (6 * roN r K + 1)) d ∧ vT (roN r K) (fun d => fst1 r d K) X ((Y + (6 * roN r K + 1) - X) % (6 * roN r K + 1)) d = v) ∨
       ((∀ d, 1 ≤ d → d ≤ roN r K → ¬ mT (roN r K) (fun d => fst1 r d K) ((Y + (6 * roN r K + 1) - X) % (6 * roN r K + 1)) d) ∧ ∃ d, 1 ≤ d ∧ d ≤ roN r K ∧ mT (roN r K) (fun d => fst1 r d K) ((X + (6 * roN r K + 1) - Y) % (6 * roN r K + 1)) d ∧ vT (roN r K) (fun d => fst1 r d K) Y ((X + (6 * roN r K + 1) - Y) % (6 * roN r K + 1)) d = v))) ∨
    ((∀ d b, 1 ≤ d → d ≤ roN r K → b < 6 * roN r K + 1 → ¬ hitT X Y (6 * roN r K + 1) d (roN r K + fst1 r d K + d) b) ∧ (∀ d, 1 ≤ d → d ≤ roN r K → ¬ mT (roN r K) (fun d => fst1 r d K) ((Y + (6 * roN r K + 1) - X) % (6 * roN r K + 1)) d) ∧ ∀ d, 1 ≤ d → d ≤ roN r K → ¬ mT (roN r K) (fun d => fst1 r d K) ((X + (6 * roN r K + 1) - Y) % (6 * roN r K + 1)) d) := by
  obtain ⟨hR, hall, h60⟩ := ro_ring hr ht h0
  generalize roN r K = ro at *
  by_cases hA : ∃ d, 1 ≤ d ∧ d ≤ ro ∧ mT ro (fun d => fst1 r d K) ((Y + (6 * ro + 1) - X) % (6 * ro + 1)) d
  · obtain ⟨d, d1, d2, hm⟩ := hA
    obtain ⟨b, hb, hh⟩ := ring_hit hR hX hY d1 d2 hm
    exact Or.inl ⟨_, vT_lt, ⟨d, b, d1, d2, hb, hh⟩, fun e b e1 e2 hb k => ring_hits hR hX hY hne d1 d2 e1 e2 hb hm k, Or.inl ⟨d, d1, d2, hm, rfl⟩⟩
  · have hA' : ∀ d, 1 ≤ d → d ≤ ro → ¬ mT ro (fun d => fst1 r d K) ((Y + (6 * ro + 1) - X) % (6 * ro + 1)) d := fun d d1 d2 hm => hA ⟨d, d1, d2, hm⟩
    by_cases hB : ∃ d, 1 ≤ d ∧ d ≤ ro ∧ mT ro (fun d => fst1 r d K) ((X + (6 * ro + 1) - Y) % (6 * ro + 1)) d
    · obtain ⟨d, d1, d2, hm⟩ := hB
      obtain ⟨b, hb, hh⟩ := ring_hit hR hY hX d1 d2 hm
      refine Or.inl ⟨_, vT_lt, ⟨d, b, d1, d2, hb, hh.sw⟩, fun e b e1 e2 hb k => ?_, Or.inr ⟨hA', d, d1, d2, hm, rfl⟩⟩
      have := ring_hits hR hY hX (fun q => hne q.symm) d1 d2 e1 e2 hb hm k.sw
      omega
    · refine Or.inr ⟨fun d b d1 d2 hb k => ?_, hA', fun d d1 d2 hm => hB ⟨d, d1, d2, hm⟩⟩
      rcases no_hit hR hX hY hne d1 d2 hb k with z | z
      · exact hA' d d1 d2 z
      · exact hB ⟨d, d1, d2, z⟩
section STH
variable {n : Nat} {x : Nat → Nat → Int32} {w : Int64} {I : Nat → Nat → Int32} {L : Nat → Nat → Int64} {Q : Nat → Nat → Option Nat} {D : Nat → Bool} {m : Option Nat} {r : Nat → Nat}
theorem th_c0 {a1 a2 : Int32} (hk : LKok m r) (hx : LKC x I m r) (h : roN r (lK m) = 0 ∨ (a1 < 0 ∨ nI (6 * roN r (lK m)) < a1) ∨ (a2 < 0 ∨ nI (6 * roN r (lK m)) < a2) ∨ a1 = a2) : f_X4_thirdOf (MM n x w I L Q D) 60 a1 a2 = some NO := by
  unfold f_X4_thirdOf
  rw [o_60, if_pos rfl, c_ring hk hx, ob_s, liN]
  by_cases z : roN r (lK m) = 0
  · rw [if_pos z, if_pos rfl]
  · obtain ⟨hR, hall, h60⟩ := ro_ring hk.2.1 hk.2.2 z
    have h := h.resolve_left z
    rw [if_neg z, if_neg (show ¬ nI (roN r (lK m)) = NO from nI_NO (by omega)), show (6 : Int32) * nI (roN r (lK m)) = nI (6 * roN r (lK m)) from pk_mul 6 _]
    by_cases z1 : a1 < 0
    · rw [if_pos z1]
    · rw [if_neg z1]
      by_cases z2 : nI (6 * roN r (lK m)) < a1
      · rw [if_pos z2]
      · rw [if_neg z2]
        by_cases z3 : a2 < 0
        · rw [if_pos z3]
        · rw [if_neg z3]
          by_cases z4 : nI (6 * roN r (lK m)) < a2
          · rw [if_pos z4]
          · rw [if_neg z4, if_pos]
            rcases h with h | h | h
            · rcases h with h | h
              · exact absurd h z1
              · exact absurd h z2
            · rcases h with h | h
              · exact absurd h z3
              · exact absurd h z4
            · exact h
theorem th_m0 {a1 a2 : Int32} (hk : LKok m r) (hx : LKM (s2 x 64 0 0) I m r) (h : roN r (lK m) = 0 ∨ (a1 < 0 ∨ nI (6 * roN r (lK m)) < a1) ∨ (a2 < 0 ∨ nI (6 * roN r (lK m)) < a2) ∨ a1 = a2) : f_X7_third (MM n x w I L Q D) 64 a1 a2 = some (NO, MM n (s2 x 64 0 0) w I L Q D) := by
  unfold f_X7_third
  rw [p_64_0, ob_s, o_64, if_pos rfl, m_order hk hx, ob_s, liN]
  by_cases z : roN r (lK m) = 0
  · rw [if_pos (show nI (roN r (lK m)) = 0 by rw [z]; rfl)]
  · obtain ⟨hR, hall, h60⟩ := ro_ring hk.2.1 hk.2.2 z
    have h := h.resolve_left z
    have e6 : (6 : Int32) * nI (roN r (lK m)) + 1 - 1 = nI (6 * roN r (lK m)) := by rw [show (6 : Int32) * nI (roN r (lK m)) = nI (6 * roN r (lK m)) from pk_mul 6 _, nI_1]; exact nI_pred _
    rw [if_neg (nI_ne0 (by omega) (by omega)), e6]
    have hin : ∀ v : Int32, (v < 0 ∨ nI (6 * roN r (lK m)) < v) → f_X7_isIn (MM n (s2 x 64 0 0) w I L Q D) v 0 (nI (6 * roN r (lK m))) = some 0 := fun v hv => by
      unfold f_X7_isIn
      by_cases q : v < 0
      · rw [if_pos q]
      · rw [if_neg q, if_pos (hv.resolve_left q)]
    have hin1 : ∀ v : Int32, ¬ (v < 0 ∨ nI (6 * roN r (lK m)) < v) → f_X7_isIn (MM n (s2 x 64 0 0) w I L Q D) v 0 (nI (6 * roN r (lK m))) = some 1 := fun v hv => by
      unfold f_X7_isIn
      rw [if_neg (fun q => hv (Or.inl q)), if_neg (fun q => hv (Or.inr q))]
    by_cases z1 : a1 < 0 ∨ nI (6 * roN r (lK m)) < a1
    · rw [hin a1 z1, ob_s, if_pos z00]
    · rw [hin1 a1 z1, ob_s, if_neg z10]
      by_cases z2 : a2 < 0 ∨ nI (6 * roN r (lK m)) < a2
      · rw [hin a2 z2, ob_s, if_pos z00]
      · rw [hin1 a2 z2, ob_s, if_neg z10, if_pos]
        rcases h with h | h | h
        · exact absurd h z1
        · exact absurd h z2
        · exact h
end STH
theorem s_third : S_third (INVp PCc) := by
  intro h hI a1 a2
  obtain ⟨n, x, w, I, L, Q, D, S, rfl, hc, hm⟩ := hI
  have hk := hc.2.2.2.2.2.2.2.1.1
  have hlc := hc.2.2.2.2.2.2.2.1.2
  have hlm : LKM (s2 x 64 0 0) I (lN9 S) (lR S) := hm.2.2.2.2.2.thr
  have hnew : INVp PCc (MM n (s2 x 64 0 0) w I L Q D) := ⟨n, s2 x 64 0 0, w, I, L, Q, D, S, rfl, CI.same pcc_ok.sc SC.s2x hc, hm.thrown⟩
  have hC : ∀ v, f_X4_thirdOf (MM n x w I L Q D) 60 a1 a2 = some v → f_X6_third (MM n x w I L Q D) 0 a1 a2 = some v := fun v e => by
    unfold f_X6_third
    rw [r_0_12, ob_s, o_60, if_pos rfl, e, ob_s]
  by_cases h0 : roN (lR S) (lK (lN9 S)) = 0 ∨ (a1 < 0 ∨ nI (6 * roN (lR S) (lK (lN9 S))) < a1) ∨ (a2 < 0 ∨ nI (6 * roN (lR S) (lK (lN9 S))) < a2) ∨ a1 = a2
  · exact ⟨NO, _, ⟨o_0, hC _ (th_c0 hk hlc h0)⟩, ⟨o_64, th_m0 hk hlm h0⟩, hnew⟩
  · have hro : roN (lR S) (lK (lN9 S)) ≠ 0 := fun z => h0 (Or.inl z)
    have b1 : ¬ a1 < 0 := fun z => h0 (Or.inr (Or.inl (Or.inl z)))
    have b2 : ¬ nI (6 * roN (lR S) (lK (lN9 S))) < a1 := fun z => h0 (Or.inr (Or.inl (Or.inr z)))
    have b3 : ¬ a2 < 0 := fun z => h0 (Or.inr (Or.inr (Or.inl (Or.inl z))))
    have b4 : ¬ nI (6 * roN (lR S) (lK (lN9 S))) < a2 := fun z => h0 (Or.inr (Or.inr (Or.inl (Or.inr z))))
    have b5 : ¬ a1 = a2 := fun z => h0 (Or.inr (Or.inr (Or.inr z)))
    obtain ⟨hR, hall, h60⟩ := ro_ring hk.2.1 hk.2.2 hro
    obtain ⟨X, hX, rfl⟩ := nI_of b1
    obtain ⟨Y, hY, rfl⟩ := nI_of b3
    rw [nI_ltI (by omega) hX] at b2
    rw [nI_ltI (by omega) hY] at b4
    have hne : X ≠ Y := fun z => b5 (by rw [z])
    have hans := third_ans hk.2.1 hk.2.2 hro (X := X) (Y := Y) (by omega) (by omega) hne
    have hl62 : ∀ d, 1 ≤ d → d ≤ roN (lR S) (lK (lN9 S)) → I 62 d = nI ((fun d => fst1 (lR S) d (lK (lN9 S))) d) := fun d d1 d2 => hlc.2.2 d d1 (by omega)
    have al1 := c_along (n := n) (x := x) (w := w) (L := L) (Q := Q) (D := D) h60 hR (X := X) (Y := Y) (by omega) (by omega) hl62
    have al2 := c_along (n := n) (x := x) (w := w) (L := L) (Q := Q) (D := D) h60 hR (X := Y) (Y := X) (by omega) (by omega) hl62
    have cst : f_X4_thirdOf (MM n x w I L Q D) 60 (nI X) (nI Y) = (f_X4_thirdAlong (MM n x w I L Q D) 60 (nI X) (nI Y) (nI (roN (lR S) (lK (lN9 S))))).bind fun x2 => if x2 = (-1 : Int32) then ((f_X4_thirdAlong (MM n x w I L Q D) 60 (nI Y) (nI X) (nI (roN (lR S) (lK (lN9 S))))).bind fun x3 => some (x3)) else (some (x2)) := by
      unfold f_X4_thirdOf
      rw [o_60, if_pos rfl, c_ring hk hlc, ob_s, if_neg hro, if_neg (show ¬ nI (roN (lR S) (lK (lN9 S))) = -1 from nI_NO (by omega)), show (6 : Int32) * nI (roN (lR S) (lK (lN9 S))) = nI (6 * roN (lR S) (lK (lN9 S))) from pk_mul 6 _, if_neg b1, if_neg (nI_nlt (by omega) (by omega)), if_neg b3, if_neg (nI_nlt (by omega) (by omega)), if_neg b5, if_pos rfl]
      rfl
    have mst : f_X7_third (MM n x w I L Q D) 64 (nI X) (nI Y) = f_X7_third_56 4096 64 (nI X) (nI Y) (nI (roN (lR S) (lK (lN9 S)))) (nI (6 * roN (lR S) (lK (lN9 S)) + 1)) (nI 1) (MM n (s2 x 64 0 0) w I L Q D) := by
      have e6 : (6 : Int32) * nI (roN (lR S) (lK (lN9 S))) + 1 = nI (6 * roN (lR S) (lK (lN9 S)) + 1) := by rw [show (6 : Int32) * nI (roN (lR S) (lK (lN9 S))) = nI (6 * roN (lR S) (lK (lN9 S))) from pk_mul 6 _, nI_1]
      have hin1 : ∀ v : Nat, v < 6 * roN (lR S) (lK (lN9 S)) + 1 → f_X7_isIn (MM n (s2 x 64 0 0) w I L Q D) (nI v) 0 (nI (6 * roN (lR S) (lK (lN9 S)))) = some 1 := fun v hv => by
        unfold f_X7_isIn
        rw [if_neg (nI_pos (by omega)), if_neg (nI_nlt (by omega) (by omega))]
      unfold f_X7_third
      rw [p_64_0, ob_s, o_64, if_pos rfl, m_order hk hlm, ob_s, if_neg (nI_ne0 (by omega) (by omega)), e6, show nI (6 * roN (lR S) (lK (lN9 S)) + 1) - 1 = nI (6 * roN (lR S) (lK (lN9 S))) from nI_pred _, hin1 X (by omega), ob_s, if_neg z10, hin1 Y (by omega), ob_s, if_neg z10, if_neg b5]
      rfl
    rcases hans with ⟨v, v1, v2, v3, v4⟩ | ⟨v1, v2, v3⟩
    · have hmod := (t56 (n := n) (x := s2 x 64 0 0) (w := w) (L := L) (Q := Q) (D := D) hk hlm h60 (by omega) hR hall (by omega) (by omega) v3 (roN (lR S) (lK (lN9 S))) 1 4096 (by omega) (by omega) (by omega)).2 v2
      have hcls : f_X4_thirdOf (MM n x w I L Q D) 60 (nI X) (nI Y) = some (nI v) := by
        rw [cst]
        rcases v4 with ⟨d, d1, d2, d3, d4⟩ | ⟨e1, d, d1, d2, d3, d4⟩
        · rw [al1.2 d d1 d2 d3, d4, ob_s, if_neg (show ¬ nI v = -1 from nI_NO (by omega))]
        · rw [al1.1 e1, ob_s, if_pos (show NO = -1 from rfl), al2.2 d d1 d2 d3, d4, ob_s]
      exact ⟨nI v, _, ⟨o_0, hC _ hcls⟩, ⟨o_64, mst.trans hmod⟩, hnew⟩
    · have hmod := (t56 (n := n) (x := s2 x 64 0 0) (w := w) (L := L) (Q := Q) (D := D) (v := 0) hk hlm h60 (by omega) hR hall (by omega) (by omega) (fun d b d1 d2 hb k => absurd k (v1 d b d1 d2 hb)) (roN (lR S) (lK (lN9 S))) 1 4096 (by omega) (by omega) (by omega)).1 v1
      have hcls : f_X4_thirdOf (MM n x w I L Q D) 60 (nI X) (nI Y) = some NO := by
        rw [cst, al1.1 v2, ob_s, if_pos (show NO = -1 from rfl), al2.1 v3, ob_s]
      exact ⟨NO, _, ⟨o_0, hC _ hcls⟩, ⟨o_64, mst.trans hmod⟩, hnew⟩
