/-! stand, keep, fill -/
section FILL
variable {n : Nat} {w : Int64} {Q : Nat → Nat → Option Nat} {D : Nat → Bool} {b N : Nat}
theorem c_stand_l {W : Int64} {e : Nat} {x I : Nat → Nat → Int32} (hb : Fi b N) (h7 : x b 7 = nI e) (he : e < 2 ^ 31) : ∀ (m u fu : Nat) (L : Nat → Nat → Int64), u + m = e → m < fu → ∃ L', f_X1_stand_72 fu b W (nI u) (MM n x w I L Q D) = some (MM n x w I L' Q D) ∧ ∀ a j, L' a j = if a = b + 21 ∧ u ≤ j ∧ j < e ∧ j < N then L a j + W else L a j := by
  have hN := Fi_N hb
  intro m
  induction m with
  | zero =>
    intro u fu L hu hf
    obtain ⟨fu, rfl⟩ : ∃ n9, fu = n9 + 1 := ⟨fu - 1, by omega⟩
    refine ⟨L, ?_, fun a j => ?_⟩
    · rw [f_X1_stand_72, Fi_g7 hb, Option.bind_some, h7, if_pos (nI_le (by omega) (by omega))]
    · rw [if_neg (by omega)]
  | succ m ih =>
    intro u fu L hu hf
    obtain ⟨fu, rfl⟩ : ∃ n9, fu = n9 + 1 := ⟨fu - 1, by omega⟩
    by_cases hk : u < N
    · obtain ⟨L', e1, e2⟩ := ih (u + 1) fu (u1 L (b + 21) (vp_updL (L (b + 21)) u (L (b + 21) u + W))) (by omega) (by omega)
      refine ⟨L', ?_, fun a j => ?_⟩
      · rw [f_X1_stand_72, Fi_g7 hb, Option.bind_some, h7, if_neg (nI_ge (by omega) (by omega)), Fi_r0 hb, Option.bind_some, Fi_n hb, Option.bind_some, if_neg (nI_ge (by omega) (by omega)), Option.bind_some, l_at (Fi_s1 hb) hk (by omega), Option.bind_some, l_set (Fi_s1 hb) hk (by omega), Option.bind_some, nI_1]
        exact e1
      · rw [e2]
        by_cases ha : a = b + 21
        · subst ha
          rw [u1_e]
          by_cases hj : j = u
          · subst hj
            rw [if_neg (by omega), if_pos ⟨rfl, by omega, by omega, hk⟩, pk_uLs]
          · rw [pk_uLn hj]
            by_cases z : u + 1 ≤ j ∧ j < e ∧ j < N
            · rw [if_pos ⟨rfl, z⟩, if_pos ⟨rfl, by omega⟩]
            · rw [if_neg (fun q => z q.2), if_neg (fun q => z ⟨by omega, q.2.2⟩)]
        · rw [if_neg (fun q => ha q.1), if_neg (fun q => ha q.1), u1_n ha]
    · refine ⟨L, ?_, fun a j => ?_⟩
      · rw [f_X1_stand_72, Fi_g7 hb, Option.bind_some, h7, if_neg (nI_ge (by omega) (by omega)), Fi_r0 hb, Option.bind_some, Fi_n hb, Option.bind_some, if_pos (nI_le (by omega) (by omega))]
      · rw [if_neg (by omega)]
theorem c_stand {c k l q i : Nat} {V : Nat × Nat → Int64} {x I : Nat → Nat → Int32} {L : Nat → Nat → Int64} (hb : Fi b N) (hc : c ≤ 18) (hp : Pre b c (k + l) V x I L) (hq : q + i + 1 < c) (hi : i < 15) (hk : k + l ≤ 4000) : ∃ I' L', f_X1_stand (MM n x w I L Q D) b (nI (i + 1)) (nI (q + 1)) (nI k) = some (MM n x w I' L' Q D) ∧ (∀ a j, I' a j = if a = b + 6 + i ∧ j = q + 1 then I a j + nI l else I a j) ∧ ∀ a j, L' a j = if a = b + 21 ∧ k ≤ j ∧ j < k + l ∧ j < N then L a j + V (q, i) else L a j := by
  have hsub : nI (k + l) - nI k = nI l := by rw [pk_sub (by omega)]; congr 1; omega
  have h3 := hp.2.2 q i hq hi
  obtain ⟨L', e1, e2⟩ := c_stand_l (n := n) (w := w) (Q := Q) (D := D) (W := V (q, i)) (x := x) (I := s2 I (b + 6 + i) (q + 1) (I (b + 6 + i) (q + 1) + nI l)) hb hp.2.1 (by omega) l k 4096 L (by omega) (by omega)
  refine ⟨s2 I (b + 6 + i) (q + 1) (I (b + 6 + i) (q + 1) + nI l), L', ?_, fun a j => ?_, e2⟩
  rotate_left
  · rw [s2_at]
    by_cases z : a = b + 6 + i ∧ j = q + 1
    · rw [if_pos z, if_pos z, z.1, z.2]
    · rw [if_neg z, if_neg z]
  · unfold f_X1_stand
    rw [li1, li15, if_neg (nI_nlt (by omega) (by omega)), if_neg (nI_nlt (by omega) (by omega)), if_neg (nI_nlt (by omega) (by omega)), Fi_g6 hb, Option.bind_some, hp.1, nI_add, if_pos (nI_le (by omega) (by omega)), Fi_r4 hb, Option.bind_some, Fi_R hb (by omega), Option.bind_some, show b + 5 + (i + 1) = b + 6 + i by omega,
      a_at (show shp[b + 6 + i]? = some (0, 19) by rw [show b + 6 + i = b + 5 + (i + 1) by omega]; exact Fi_s6 hb (by omega)) (Or.inl rfl) (by omega) (by decide), Option.bind_some, Fi_g7 hb, Option.bind_some, hp.2.1, hsub,
      a_set (show shp[b + 6 + i]? = some (0, 19) by rw [show b + 6 + i = b + 5 + (i + 1) by omega]; exact Fi_s6 hb (by omega)) (Or.inl rfl) (by omega) (by decide), Option.bind_some, Fi_r2 hb, Option.bind_some, a_at (Fi_s3 hb) (Or.inl rfl) (by omega) (by decide), Option.bind_some, Fi_r1 hb, Option.bind_some, l_at (Fi_s2 hb) (by omega) (by decide), Option.bind_some, Option.bind_some, l_at (Fi_s2 hb) (by omega) (by decide), Option.bind_some,
      show s2 I (b + 6 + i) (q + 1) (I (b + 6 + i) (q + 1) + nI l) (b + 2) (i + 1) = I (b + 2) (i + 1) by rw [s2_at, if_neg (by omega)], show q + 1 + (i + 1) = q + i + 2 by omega, ← h3]
    exact e1
theorem c_keep0 {k : Nat} {V : Nat × Nat → Int64} {x I : Nat → Nat → Int32} {L : Nat → Nat → Int64} (hb : Fi b N) (h7 : x b 7 = nI k) (hk : k < 2 ^ 30) : ∃ x' L', f_X1_keep (MM n x w I L Q D) b = some (MM n x' w I L' Q D) ∧ Eff b N k V [[]] x I x' I L L' := by
  have hN := Fi_N hb
  have hI : ∀ a j, I a j = if b + 6 ≤ a ∧ a ≤ b + 20 ∧ 1 ≤ j then I a j + nI (cf (j - 1, a - (b + 6)) [[]]) else I a j := fun a j => by
    split
    · show _ = _ + nI 0; rw [nI_0, Int32.add_zero]
    · rfl
  by_cases h : k < N
  · refine ⟨s2 x b 7 (nI (k + 1)), u1 L (b + 21) (vp_updL (L (b + 21)) k 0), ?_, fun a j => s2_at, hI, fun a j z => ?_, fun i hi z => ?_⟩
    · unfold f_X1_keep
      rw [Fi_g7 hb, Option.bind_some, Fi_r0 hb, Option.bind_some, Fi_n hb, Option.bind_some, h7, if_neg (nI_ge (by omega) (by omega)), Option.bind_some, Option.bind_some, l_set (Fi_s1 hb) h (by omega), Option.bind_some, Fi_g7 hb, Option.bind_some, h7, nI_1, Fi_p7 hb, Option.bind_some]
    · rcases z with z | z
      · rw [u1_n z]
      · by_cases q : a = b + 21
        · subst q; rw [u1_e, pk_uLn (by omega)]
        · rw [u1_n q]
    · have hi : i < 1 := hi
      obtain rfl : i = 0 := by omega
      rw [u1_e]
      show vp_updL (L (b + 21)) k 0 k = _
      rw [pk_uLs]
      rfl
  · refine ⟨s2 x b 7 (nI (k + 1)), L, ?_, fun a j => s2_at, hI, fun _ _ _ => rfl, fun i hi z => by omega⟩
    unfold f_X1_keep
    rw [Fi_g7 hb, Option.bind_some, Fi_r0 hb, Option.bind_some, Fi_n hb, Option.bind_some, h7, if_pos (nI_le (by omega) (by omega)), Option.bind_some, nI_1, Fi_p7 hb, Option.bind_some]
theorem shl2 : ∀ i, i < 15 → ∀ l, l < 19 → nI (2 ^ i) <<< (nI l &&& 31) = nI (2 ^ (i + l)) := by decide +kernel
theorem pc_msk {A a : Nat} (ha : a < 18) (h : A.testBit a = true) : pc (msk A (2 ^ a)) + 1 = pc A := by rw [pc_ct, pc_ct]; exact ct_msk ha h
theorem pc_0 {m : Nat} (h : m < 2 ^ 18) (e : pc m = 0) : m = 0 := by
  by_cases q : 0 < m
  · have := pcN_pos 18 m h q
    unfold pc at e
    omega
  · omega
def subE (c q fr un i : Nat) : List (List (Nat × Nat)) := if un.testBit i = true ∧ fr.testBit (q + i + 1) = true then (enu (c - (q + 1)) (q + 1) (msk (msk fr (2 ^ q)) (2 ^ (q + i + 1))) (msk un (2 ^ i))).map (fun e => (q, i) :: e) else []
theorem c_fill78 {c q fr un : Nat} {V : Nat × Nat → Int64} {rec : Hp → Nat → Int32 → Int32 → Int32 → Option Hp} (hb : Fi b N) (hc : c ≤ 18) (hq : q < c) (hfr : fr < 2 ^ c) (hun : un < 2 ^ 15)
    (hrec : ∀ i k x I L, i < 15 → un.testBit i = true → fr.testBit (q + i + 1) = true → Pre b c k V x I L → k + (enu (c - (q + 1)) (q + 1) (msk (msk fr (2 ^ q)) (2 ^ (q + i + 1))) (msk un (2 ^ i))).length ≤ 4000 → ∃ x' I' L', rec (MM n x w I L Q D) b (nI (q + 2)) (nI (msk (msk fr (2 ^ q)) (2 ^ (q + i + 1)))) (nI (msk un (2 ^ i))) = some (MM n x' w I' L' Q D) ∧ Eff b N k V (enu (c - (q + 1)) (q + 1) (msk (msk fr (2 ^ q)) (2 ^ (q + i + 1))) (msk un (2 ^ i))) x I x' I' L L') :
    ∀ (p m g t fu k : Nat) (x I : Nat → Nat → Int32) (L : Nat → Nat → Int64), pc g = p → g < 2 ^ 15 → m ≤ 15 → (∀ i, g.testBit i = (decide (m ≤ i) && (un.testBit i && fr.testBit (q + i + 1)))) → t + p ≤ 9 → p < fu → Pre b c k V x I L → k + ((List.range' m (15 - m)).flatMap (subE c q fr un)).length ≤ 4000 →
    ∃ x' I' L', f_X1_fill_78 rec fu b (nI un) (nI (q + 1)) (nI (msk fr (2 ^ q))) (nI g) (nI t) (MM n x w I L Q D) = some (MM n x' w I' L' Q D) ∧ Eff b N k V ((List.range' m (15 - m)).flatMap (subE c q fr un)) x I x' I' L L' := by
  have hbit : ∀ i, fr.testBit i = true → i < c := fun i h => by
    by_cases z : i < c
    · exact z
    · rw [Nat.testBit_lt_two_pow (Nat.lt_of_lt_of_le hfr (Nat.pow_le_pow_right (by decide) (by omega)))] at h; cases h
  intro p
  induction p with
  | zero =>
    intro m g t fu k x I L hp hg hm hgb ht hf hpre hlen
    obtain ⟨fu, rfl⟩ : ∃ n9, fu = n9 + 1 := ⟨fu - 1, by omega⟩
    obtain rfl : g = 0 := pc_0 (by omega) hp
    have e : (List.range' m (15 - m)).flatMap (subE c q fr un) = [] := flat_none fun i hi => by
      have := hgb i
      rw [Nat.zero_testBit] at this
      unfold subE
      rw [if_neg]
      intro z
      rw [z.1, z.2] at this
      simp at this
      omega
    rw [e]
    refine ⟨x, I, L, ?_, Eff.nil hpre.2.1⟩
    rw [f_X1_fill_78]
    split
    · rfl
    · rw [if_pos nI_0]
  | succ p ih =>
    intro m g t fu k x I L hp hg hm hgb ht hf hpre hlen
    obtain ⟨fu, rfl⟩ : ∃ n9, fu = n9 + 1 := ⟨fu - 1, by omega⟩
    have hg0 : 0 < g := by
      by_cases z : 0 < g
      · exact z
      · obtain rfl : g = 0 := by omega
        unfold pc at hp
        rw [pcN_0] at hp
        omega
    obtain ⟨t1, t2, t3⟩ := tz_spec 15 g hg hg0
    have hl := lowbit hg hg0
    generalize tz 15 g = i at t1 t2 t3 hl
    have hi := hgb i
    rw [t2] at hi
    have hi := hi.symm
    simp only [Bool.and_eq_true, decide_eq_true_eq] at hi
    obtain ⟨hmi, hu, hf2⟩ := hi
    have hic := hbit _ hf2
    have efl : (List.range' m (15 - m)).flatMap (subE c q fr un) = subE c q fr un i ++ (List.range' (i + 1) (15 - (i + 1))).flatMap (subE c q fr un) := flat_low hmi t1 fun j h1 h2 => by
      have := hgb j
      rw [t3 j h2] at this
      unfold subE
      rw [if_neg]
      intro z
      rw [z.1, z.2] at this
      simp at this
      omega
    have esub : subE c q fr un i = (enu (c - (q + 1)) (q + 1) (msk (msk fr (2 ^ q)) (2 ^ (q + i + 1))) (msk un (2 ^ i))).map (fun e => (q, i) :: e) := by unfold subE; rw [if_pos ⟨hu, hf2⟩]
    rw [efl, List.length_append] at hlen
    rw [efl]
    have hsl : (subE c q fr un i).length = (enu (c - (q + 1)) (q + 1) (msk (msk fr (2 ^ q)) (2 ^ (q + i + 1))) (msk un (2 ^ i))).length := by rw [esub, List.length_map]
    obtain ⟨x1, I1, L1, r1, r2⟩ := hrec i k x I L t1 hu hf2 hpre (by omega)
    have hpre1 := r2.pre hpre
    have pc1 := pc_msk (A := g) (a := i) (by omega) t2
    have hgb' : ∀ j, (msk g (2 ^ i)).testBit j = (decide (i + 1 ≤ j) && (un.testBit j && fr.testBit (q + j + 1))) := fun j => by
      rw [msk1]
      by_cases z1 : j < i
      · rw [t3 j z1]; simp; omega
      · by_cases z2 : j = i
        · rw [z2]; simp; omega
        · rw [hgb j]
          simp [show m ≤ j by omega, show i + 1 ≤ j by omega, z2]
    have hcall : ∀ h2 : Hp, (nI g &&& (nI g &&& (-nI g) ^^^ NO)) = nI (msk g (2 ^ i)) := fun _ => by rw [hl, msk_nI]
    have hstart : f_X1_fill_78 rec (fu + 1) b (nI un) (nI (q + 1)) (nI (msk fr (2 ^ q))) (nI g) (nI t) (MM n x w I L Q D) = (gI (MM n x1 w I1 L1 Q D) b 1 7).bind fun x3 => if x3 ≤ nI k then (f_X1_fill_78 rec fu b (nI un) (nI (q + 1)) (nI (msk fr (2 ^ q))) (nI (msk g (2 ^ i))) (nI (t + 1)) (MM n x1 w I1 L1 Q D)) else ((f_J6_bitCount_0f7a4 (MM n x1 w I1 L1 Q D) (nI (2 ^ i) - 1)).bind fun x4 => if oK (MM n x1 w I1 L1 Q D) b 1 = true then (f_X1_stand (MM n x1 w I1 L1 Q D) b (x4 + 1) (nI (q + 1)) (nI k)).bind fun h5 => f_X1_fill_78 rec fu b (nI un) (nI (q + 1)) (nI (msk fr (2 ^ q))) (nI (msk g (2 ^ i))) (nI (t + 1)) h5 else none) := by
      rw [f_X1_fill_78, if_neg (by rw [li9]; exact nI_ge (by omega) (by decide)), if_neg (nI_ne0 hg0 (by omega)), Fi_g7 hb, Option.bind_some, Fi_o hb, if_pos rfl, hl, liN, shl2 i t1 (q + 1) (by omega), msk_nI, msk_nI, msk_nI, show i + (q + 1) = q + i + 1 by omega, nI_1, hpre.2.1, nI_1, show q + 1 + 1 = q + 2 by omega, r1, Option.bind_some]
    rw [hstart, Fi_g7 hb, Option.bind_some, hpre1.2.1]
    by_cases hz : (enu (c - (q + 1)) (q + 1) (msk (msk fr (2 ^ q)) (2 ^ (q + i + 1))) (msk un (2 ^ i))).length = 0
    · have e0 := List.eq_nil_of_length_eq_zero hz
      rw [e0] at r2 hpre1
      have es0 : subE c q fr un i = [] := by rw [esub, e0]; rfl
      rw [hz, Nat.add_zero, if_pos (Int32.le_refl _), es0, List.nil_append]
      obtain ⟨x2, I2, L2, s1, s2⟩ := ih (i + 1) (msk g (2 ^ i)) (t + 1) fu k x1 I1 L1 (by omega) (msk_lt hg) (by omega) hgb' (by omega) (by omega) hpre1 (by omega)
      exact ⟨x2, I2, L2, s1, r2.app s2⟩
    · have hone : 1 ≤ 2 ^ i := Nat.one_le_two_pow
      obtain ⟨I2, L2, u1, u2, u3⟩ := c_stand (n := n) (w := w) (Q := Q) (D := D) (q := q) (i := i) hb hc hpre1 (by omega) t1 (by omega)
      have heff := r2.stand t1 u2 u3
      rw [← esub] at heff
      obtain ⟨x3, I3, L3, s1, s2⟩ := ih (i + 1) (msk g (2 ^ i)) (t + 1) fu (k + (subE c q fr un i).length) x1 I2 L2 (by omega) (msk_lt hg) (by omega) hgb' (by omega) (by omega) (heff.pre hpre) (by omega)
      refine ⟨x3, I3, L3, ?_, heff.app s2⟩
      rw [if_neg (nI_ge (by omega) (by omega)), li1, pk_sub hone, bcN (by have : 2 ^ i ≤ 2 ^ 15 := Nat.pow_le_pow_right (by decide) (by omega); omega), low_pc i t1, Option.bind_some, Fi_o hb, if_pos rfl, nI_add, u1, Option.bind_some]
      exact s1
/-- the first free place -/
theorem first_free (fr c : Nat) : ∀ (j q : Nat), q + j = c → ∃ t, q + t ≤ c ∧ (∀ k, q ≤ k → k < q + t → fr.testBit k = false) ∧ (q + t = c ∨ fr.testBit (q + t) = true)
  | 0, q, h => ⟨0, by omega, fun k h1 h2 => by omega, Or.inl (by omega)⟩
  | j + 1, q, h => by
    cases e : fr.testBit q with
    | true => exact ⟨0, by omega, fun k h1 h2 => by omega, Or.inr e⟩
    | false =>
      obtain ⟨t, h1, h2, h3⟩ := first_free fr c j (q + 1) (by omega)
      refine ⟨t + 1, by omega, fun k k1 k2 => ?_, by rw [show q + (t + 1) = q + 1 + t by omega]; exact h3⟩
      by_cases z : k = q
      · rw [z, e]
      · exact h2 k (by omega) (by omega)
theorem c_fill3 {c fr un : Nat} {x I : Nat → Nat → Int32} {L : Nat → Nat → Int64} {rec : Hp → Nat → Int32 → Int32 → Int32 → Option Hp} (hb : Fi b N) (h6 : x b 6 = nI c) (hc : c ≤ 18) : ∀ (t q fu : Nat), q + t ≤ c → (∀ k, q ≤ k → k < q + t → fr.testBit k = false) → f_X1_fill_3 rec (t + fu) b (nI fr) (nI un) (nI (q + 1)) (MM n x w I L Q D) = f_X1_fill_3 rec fu b (nI fr) (nI un) (nI (q + t + 1)) (MM n x w I L Q D)
  | 0, q, fu, _, _ => by rw [Nat.zero_add, Nat.add_zero]
  | t + 1, q, fu, h1, h2 => by
    rw [show t + 1 + fu = (t + fu) + 1 by omega, f_X1_fill_3, Fi_g6 hb, Option.bind_some, h6, if_neg (nI_nlt (by omega) (by omega)), bitN (by omega) (by omega), Option.bind_some, Nat.add_sub_cancel, if_pos ((fa_bit (by omega)).mpr (h2 q (by omega) (by omega))), nI_1, c_fill3 hb h6 hc t (q + 1) fu (by omega) (fun k k1 k2 => h2 k (by omega) (by omega)), show q + 1 + t = q + (t + 1) by omega]
theorem enu_at {c j q fr un : Nat} (h : fr.testBit q = true) (hj : q + (j + 1) = c) : enu (j + 1) q fr un = (List.range' 0 (15 - 0)).flatMap (subE c q fr un) := by
  rw [enu, if_pos h, range_15]
  congr 1
  funext i
  unfold subE
  rw [show c - (q + 1) = j by omega]
theorem c_fillN {c : Nat} {V : Nat × Nat → Int64} (hb : Fi b N) (hc : c ≤ 18) : ∀ (fu q fr un k : Nat) (x I : Nat → Nat → Int32) (L : Nat → Nat → Int64), q ≤ c → c - q ≤ fu → fr < 2 ^ c → (∀ j, j < q → fr.testBit j = false) → un < 2 ^ 15 → pc fr = 2 * pc un → pc un ≤ 9 → Pre b c k V x I L → k + (enu (c - q) q fr un).length ≤ 4000 →
    ∃ x' I' L', f_X1_fill (fu + 1) (MM n x w I L Q D) b (nI (q + 1)) (nI fr) (nI un) = some (MM n x' w I' L' Q D) ∧ Eff b N k V (enu (c - q) q fr un) x I x' I' L L' := by
  intro fu
  induction fu with
  | zero =>
    intro q fr un k x I L hq hfu hfr hlow hun hpc hp9 hpre hlen
    obtain rfl : q = c := by omega
    have h0 : fr = 0 := Nat.eq_of_testBit_eq fun j => by
      rw [Nat.zero_testBit]
      by_cases z : j < q
      · exact hlow j z
      · exact Nat.testBit_lt_two_pow (Nat.lt_of_lt_of_le hfr (Nat.pow_le_pow_right (by decide) (by omega)))
    subst h0
    have hu0 : un = 0 := pc_0 (by omega) (by unfold pc at hpc ⊢; rw [pcN_0] at hpc; omega)
    subst hu0
    rw [enu_none _ _ _ _ (fun k h1 h2 => by omega), if_pos rfl] at hlen ⊢
    obtain ⟨x', L', e1, e2⟩ := c_keep0 (n := n) (w := w) (Q := Q) (D := D) (V := V) (I := I) (L := L) hb hpre.2.1 (by omega)
    refine ⟨x', I, L', ?_, e2⟩
    rw [f_X1_fill, f_X1_fill_3, Fi_g6 hb, Option.bind_some, hpre.1, if_pos (nI_lt (by omega) (by omega)), Option.bind_some, if_neg (nI_ge (by omega) (by omega)), Fi_o hb, if_pos rfl, e1, Option.bind_some]
  | succ fu ih =>
    intro q fr un k x I L hq hfu hfr hlow hun hpc hp9 hpre hlen
    obtain ⟨t, ht1, ht2, ht3⟩ := first_free fr c (c - q) q (by omega)
    rw [f_X1_fill, show 4096 = t + ((4095 - t) + 1) by omega, c_fill3 hb hpre.1 hc t q _ ht1 ht2]
    rw [show c - q = t + (c - (q + t)) by omega, enu_skip t _ q fr un ht2] at hlen ⊢
    have hlow' : ∀ j, j < q + t → fr.testBit j = false := fun j hj => by
      by_cases z : j < q
      · exact hlow j z
      · exact ht2 j (by omega) hj
    have hge : q ≤ q + t := Nat.le_add_right _ _
    generalize q + t = p at *
    clear ht2
    by_cases hpc2 : p = c
    · subst hpc2
      have h0 : fr = 0 := Nat.eq_of_testBit_eq fun j => by
        rw [Nat.zero_testBit]
        by_cases z : j < p
        · exact hlow' j z
        · exact Nat.testBit_lt_two_pow (Nat.lt_of_lt_of_le hfr (Nat.pow_le_pow_right (by decide) (by omega)))
      subst h0
      have hu0 : un = 0 := pc_0 (by omega) (by unfold pc at hpc ⊢; rw [pcN_0] at hpc; omega)
      subst hu0
      rw [enu_none _ _ _ _ (fun k h1 h2 => by omega), if_pos rfl] at hlen ⊢
      obtain ⟨x', L', e1, e2⟩ := c_keep0 (n := n) (w := w) (Q := Q) (D := D) (V := V) (I := I) (L := L) hb hpre.2.1 (by have : ([[]] : List (List (Nat × Nat))).length = 1 := rfl; omega)
      refine ⟨x', I, L', ?_, e2⟩
      rw [f_X1_fill_3, Fi_g6 hb, Option.bind_some, hpre.1, if_pos (nI_lt (by omega) (by omega)), Option.bind_some, if_neg (nI_ge (by omega) (by omega)), Fi_o hb, if_pos rfl, e1, Option.bind_some]
    · have hpc : p < c := by omega
      have hbp : fr.testBit p = true := by rcases ht3 with z | z; · omega
                                           · exact z
      have hns : ¬ nI fr &&& nI (2 ^ (p + 1 - 1)) = 0 := fun z => by
        rw [fa_bit (by omega), Nat.add_sub_cancel, hbp] at z
        cases z
      have hfr18 : fr < 2 ^ 18 := Nat.lt_of_lt_of_le hfr (Nat.pow_le_pow_right (by decide) hc)
      rw [f_X1_fill_3, Fi_g6 hb, Option.bind_some, hpre.1, if_neg (nI_nlt (by omega) (by omega)), bitN (by omega) (by omega), Option.bind_some, if_neg hns, Option.bind_some, if_pos (nI_le (by omega) (by omega)), Option.bind_some, pk_sub (by omega), ushN (by omega) (by omega)]
      by_cases hz : un / 2 ^ (c - (p + 1)) = 0
      · rw [if_pos (by rw [hz, nI_0]), Option.bind_some, liN, msk_nI, Nat.add_sub_cancel, ushN (Nat.lt_trans (msk_lt hfr18) (by decide)) (by omega), fa_and]
        rw [show c - p = (c - (p + 1)) + 1 by omega, enu_at (c := c) hbp (by omega)] at hlen ⊢
        have hgb : ∀ i, (un &&& msk fr (2 ^ p) / 2 ^ (p + 1)).testBit i = (decide (0 ≤ i) && (un.testBit i && fr.testBit (p + i + 1))) := fun i => by
          rw [Nat.testBit_and, Nat.testBit_div_two_pow, msk1, show i + (p + 1) = p + i + 1 by omega]
          simp [show ¬ p + i + 1 = p by omega]
        have hg15 : un &&& msk fr (2 ^ p) / 2 ^ (p + 1) < 2 ^ 15 := Nat.lt_of_le_of_lt Nat.and_le_left hun
        have hple : pc (un &&& msk fr (2 ^ p) / 2 ^ (p + 1)) ≤ pc un := by
          rw [pc_ct, pc_ct]
          refine fb_ct_sub fun i _ h => ?_
          rw [hgb i] at h
          simp only [Bool.and_eq_true] at h
          exact h.2.1
        exact c_fill78 hb hc hpc hfr hun (fun i k x I L hi hu hf hpr hle => ih (p + 1) _ _ k x I L (by omega) (by omega) (msk_lt (msk_lt hfr)) (fun j hj => by
            rw [msk1, msk1]
            by_cases z : j < p
            · rw [hlow' j z]; rfl
            · obtain rfl : j = p := by omega
              simp) (msk_lt hun) (by
            have hic : p + i + 1 < c := by
              by_cases z : p + i + 1 < c
              · exact z
              · rw [Nat.testBit_lt_two_pow (Nat.lt_of_lt_of_le hfr (Nat.pow_le_pow_right (by decide) (by omega)))] at hf; cases hf
            have a1 := pc_msk (A := fr) (a := p) (by omega) hbp
            have a2 := pc_msk (A := msk fr (2 ^ p)) (a := p + i + 1) (by omega) (by rw [msk1, hf]; simp; omega)
            have a3 := pc_msk (A := un) (a := i) (by omega) hu
            omega) (by
            have a3 := pc_msk (A := un) (a := i) (by omega) hu
            omega) hpr hle) _ 0 _ 0 4096 k x I L rfl hg15 (by omega) hgb (by omega) (by omega) hpre hlen
      · rw [if_neg (fun z => hz (by
          have : un / 2 ^ (c - (p + 1)) < 2 ^ 31 := Nat.lt_of_le_of_lt (Nat.div_le_self _ _) (by omega)
          have := (nI_eq this (by decide : 0 < 2 ^ 31)).mp (by rw [z]; rfl)
          exact this))]
        obtain ⟨i, hi⟩ : ∃ i, (un / 2 ^ (c - (p + 1))).testBit i = true := Nat.exists_testBit_of_ne_zero hz
        rw [Nat.testBit_div_two_pow] at hi
        have he : enu (c - p) p fr un = [] := enu_long (i := i + (c - (p + 1))) (c - p) p fr un (fun j hj => Nat.testBit_lt_two_pow (Nat.lt_of_lt_of_le hfr (Nat.pow_le_pow_right (by decide) (by omega)))) hi (by omega)
        rw [he]
        exact ⟨x, I, L, rfl, Eff.nil hpre.2.1⟩
end FILL
