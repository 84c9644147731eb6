/-! the model goes through all fillings -/
def ovr (t : Nat → Nat) (e : List (Nat × Nat)) : Nat → Nat := fun k => if t k ≠ 0 then t k else rowL e k
def upd2 (t : Nat → Nat) (q i : Nat) : Nat → Nat := fun k => if k = q ∨ k = q + i + 1 then i + 1 else t k
theorem ovr_nil {t : Nat → Nat} : ovr t [] = t := by
  funext k
  unfold ovr
  split
  · rfl
  · rename_i h
    rw [rowL]
    omega
theorem ovr_upd {t : Nat → Nat} {q i : Nat} {e : List (Nat × Nat)} (h1 : t q = 0) (h2 : t (q + i + 1) = 0) : ovr (upd2 t q i) e = ovr t ((q, i) :: e) := by
  funext k
  unfold ovr upd2
  rw [rowL]
  by_cases z : k = q ∨ k = q + i + 1
  · rw [if_pos z, if_pos z, if_pos (by omega), if_neg (by rcases z with z | z <;> rw [z] <;> simp [h1, h2])]
  · rw [if_neg z, if_neg z]
def fld (c : Nat) (T : List (Nat → Nat)) (s : (Nat → Nat → Int32) × (Nat → Nat → Int32)) : (Nat → Nat → Int32) × (Nat → Nat → Int32) := T.foldl (fun s r => stp c r s) s
theorem fld_app {c : Nat} {T U : List (Nat → Nat)} {s : (Nat → Nat → Int32) × (Nat → Nat → Int32)} : fld c (T ++ U) s = fld c U (fld c T s) := List.foldl_append
theorem fld_n {c a : Nat} (h1 : a ≠ 75) (h2 : a ≠ 77) : ∀ (T : List (Nat → Nat)) (s : (Nat → Nat → Int32) × (Nat → Nat → Int32)), (fld c T s).2 a = s.2 a
  | [], s => rfl
  | t :: T, s => by
    show (fld c T (stp c t s)).2 a = _
    rw [fld_n h1 h2 T]
    exact cst_n h1 h2 c
theorem FrM0.cong {I J : Nat → Nat → Int32} {a c ho pa : Nat} {f : Nat → Nat} (h : J a = I a) (k : FrM0 I a c ho pa f) : FrM0 J a c ho pa f := by
  unfold FrM0 at *
  rw [h]
  exact k
/-- what is free, by holes and cells -/
def Rel (c ho : Nat) (t : Nat → Nat) (fr : Nat) : Prop := ∀ k, fr.testBit k = (decide (k < c) && !ho.testBit k && decide (t k = 0))
theorem Rel.upd {c ho q i fr : Nat} {t : Nat → Nat} (h : Rel c ho t fr) : Rel c ho (upd2 t q i) (msk (msk fr (2 ^ q)) (2 ^ (q + i + 1))) := by
  intro k
  rw [msk1, msk1, h k]
  unfold upd2
  by_cases z : k = q ∨ k = q + i + 1
  · rw [if_pos z]
    rcases z with z | z <;> simp [z]
  · rw [if_neg z]
    have z1 : k ≠ q := fun y => z (Or.inl y)
    have z2 : k ≠ q + i + 1 := fun y => z (Or.inr y)
    simp [z1, z2]
section MFI
variable {n : Nat} {w : Int64} {L : Nat → Nat → Int64} {Q : Nat → Nat → Option Nat} {D : Nat → Bool} {a c ho pa : Nat} {f : Nat → Nat}
def subP (f : Nat → Nat) (c q fr un i : Nat) : List (List (Nat × Nat)) := if un.testBit i = true ∧ fr.testBit (q + i + 1) = true ∧ (f (i + 1) = 0 ∨ f (i + 1) = q + 1) then (enuP f (c - (q + 1)) (q + 1) (msk (msk fr (2 ^ q)) (2 ^ (q + i + 1))) (msk un (2 ^ i))).map (fun e => (q, i) :: e) else []
def tl8 (rec : Hp → Nat → Nat → Int32 → Int32 → Option Hp) (n v0 v1 : Nat) (v3 v4 v5 : Int32) (h : Hp) : Option Hp := (aI h 0 v1 (1 : Int32)).bind fun x4 => (f_X7_has h x4 ((v4 + v5) - (1 : Int32))).bind fun x5 => if x5 = 0 then ((gR h v0 7 20).bind fun x6 => (aI h 0 x6 ((v4 + v5) - (1 : Int32))).bind fun x7 => if x7 ≤ 0 then ((gR h v0 7 20).bind fun x8 => (sI h 0 x8 (v4 - (1 : Int32)) v5).bind fun h9 => (gR h9 v0 7 20).bind fun x10 => (sI h9 0 x10 ((v4 + v5) - (1 : Int32)) v5).bind fun h11 => if oK h11 v0 7 = true then (rec h11 v0 v1 (v4 + (1 : Int32)) (v3 &&& (((1 : Int32) <<< ((v5 - (1 : Int32)) &&& 31)) ^^^ (-1 : Int32)))).bind fun h12 => (gR h12 v0 7 20).bind fun x13 => (sI h12 0 x13 (v4 - (1 : Int32)) (0 : Int32)).bind fun h14 => (gR h14 v0 7 20).bind fun x15 => (sI h14 0 x15 ((v4 + v5) - (1 : Int32)) (0 : Int32)).bind fun h16 => f_X7_fills_63 rec n v0 v1 v3 v4 (v5 + (1)) h16 else none) else (f_X7_fills_63 rec n v0 v1 v3 v4 (v5 + (1)) h)) else (f_X7_fills_63 rec n v0 v1 v3 v4 (v5 + (1)) h)
theorem m_fills63 {q fr un : Nat} {t : Nat → Nat} {C : Nat → Int32} {rec : Hp → Nat → Nat → Int32 → Int32 → Option Hp} (ha : aM a) (hc : c ≤ 18) (hq : q < c) (hho : ho < 2 ^ 18) (hun : un < 2 ^ 15) (hf : ∀ d, d < 16 → f d ≤ 18) (hR : Rel c ho t fr) (hfq : fr.testBit q = true) (hC : ∀ j, j < 18 → C j = nI (t j)) (ht : ∀ j, t j ≤ 15)
    (hrec : ∀ i x I C', i < 15 → un.testBit i = true → fr.testBit (q + i + 1) = true → FrM0 I a c ho pa f → (∀ j, j < 18 → C' j = nI (upd2 t q i j)) → rec (MM n x w (u1 I 74 C') L Q D) 64 a (nI (q + 2)) (nI (msk un (2 ^ i))) = some (MM n (fld c ((enuP f (c - (q + 1)) (q + 1) (msk (msk fr (2 ^ q)) (2 ^ (q + i + 1))) (msk un (2 ^ i))).map (ovr (upd2 t q i))) (x, I)).1 w (u1 (fld c ((enuP f (c - (q + 1)) (q + 1) (msk (msk fr (2 ^ q)) (2 ^ (q + i + 1))) (msk un (2 ^ i))).map (ovr (upd2 t q i))) (x, I)).2 74 C') L Q D)) :
    ∀ (j i fu : Nat) (x I : Nat → Nat → Int32), i + j = 15 → j < fu → FrM0 I a c ho pa f →
    f_X7_fills_63 rec fu 64 a (nI un) (nI (q + 1)) (nI (i + 1)) (MM n x w (u1 I 74 C) L Q D) = some (MM n (fld c (((List.range' i (15 - i)).flatMap (subP f c q fr un)).map (ovr t)) (x, I)).1 w (u1 (fld c (((List.range' i (15 - i)).flatMap (subP f c q fr un)).map (ovr t)) (x, I)).2 74 C) L Q D) := by
  have h74 : a ≠ 74 := by rcases ha with rfl | rfl <;> decide
  have h75 : a ≠ 75 := by rcases ha with rfl | rfl <;> decide
  have h77 : a ≠ 77 := by rcases ha with rfl | rfl <;> decide
  have hbit : ∀ i, fr.testBit i = true → i < c := fun i h => by
    rw [hR i] at h
    simp only [Bool.and_eq_true, decide_eq_true_eq] at h
    exact h.1.1
  have htq : t q = 0 := by
    rw [hR q] at hfq
    simp only [Bool.and_eq_true, decide_eq_true_eq] at hfq
    exact hfq.2
  intro j
  induction j with
  | zero =>
    intro i fu x I hi hfu hF
    obtain ⟨fu, rfl⟩ : ∃ n9, fu = n9 + 1 := ⟨fu - 1, by omega⟩
    obtain rfl : i = 15 := by omega
    rw [f_X7_fills_63, if_pos (by decide)]
    rfl
  | succ j ih =>
    intro i fu x I hi hfu hF
    obtain ⟨fu, rfl⟩ : ∃ n9, fu = n9 + 1 := ⟨fu - 1, by omega⟩
    have e0 : ∀ (k : Nat), k < 19 → aI (MM n x w (u1 I 74 C) L Q D) 0 a (nI k) = some (I a k) := fun k hk => k_n h74 ha.s hk (by decide)
    have e00 : aI (MM n x w (u1 I 74 C) L Q D) 0 a 0 = some (nI c) := by rw [← hF.1]; exact e0 0 (by omega)
    have e01 : aI (MM n x w (u1 I 74 C) L Q D) 0 a 1 = some (nI ho) := by rw [← hF.2.1]; exact e0 1 (by omega)
    have hA2 : nI (q + 1) + nI (i + 1) - 1 = nI (q + i + 1) := by rw [nI_add, show q + 1 + (i + 1) = q + i + 1 + 1 by omega]; exact nI_pred _
    have hA1 : nI (q + 1) - 1 = nI q := nI_pred _
    have hA0 : nI (i + 1) - 1 = nI i := nI_pred _
    have ep : aI (MM n x w (u1 I 74 C) L Q D) 0 a (3 + nI (i + 1)) = some (nI (f (i + 1))) := by rw [li3, nI_add, e0 (3 + (i + 1)) (by omega), hF.2.2.2 (i + 1) (by omega)]
    have hfi := hf (i + 1) (by omega)
    rw [f_X7_fills_63, if_neg (show ¬ (15 : Int32) < nI (i + 1) from nI_nlt (a := 15) (by omega) (by decide)), e00, ob_s]
    by_cases hend : c < q + 1 + (i + 1)
    · rw [if_pos (show nI c < nI (q + 1) + nI (i + 1) by rw [nI_add]; exact nI_lt hend (by omega))]
      have : (List.range' i (15 - i)).flatMap (subP f c q fr un) = [] := flat_none fun k hk => by
        unfold subP
        rw [if_neg]
        intro z
        have := hbit _ z.2.1
        omega
      rw [this]
      rfl
    · rw [if_neg (show ¬ nI c < nI (q + 1) + nI (i + 1) by rw [nI_add]; exact nI_nlt (by omega) (by omega)), show f_X7_has (MM n x w (u1 I 74 C) L Q D) (nI un) (nI (i + 1) - 1) = some (if un.testBit i = true then 1 else 0) by rw [hA0]; exact hasN (by omega) (by omega), ob_s]
      have hsplit : (List.range' i (15 - i)).flatMap (subP f c q fr un) = subP f c q fr un i ++ (List.range' (i + 1) (15 - (i + 1))).flatMap (subP f c q fr un) := flat_low (Nat.le_refl _) (by omega) (fun k h1 h2 => by omega)
      have next : ∀ (x J : Nat → Nat → Int32), FrM0 J a c ho pa f → f_X7_fills_63 rec fu 64 a (nI un) (nI (q + 1)) (nI (i + 1) + 1) (MM n x w (u1 J 74 C) L Q D) = some (MM n (fld c (((List.range' (i + 1) (15 - (i + 1))).flatMap (subP f c q fr un)).map (ovr t)) (x, J)).1 w (u1 (fld c (((List.range' (i + 1) (15 - (i + 1))).flatMap (subP f c q fr un)).map (ovr t)) (x, J)).2 74 C) L Q D) := fun x J hJ => by
        rw [nI_1]
        exact ih (i + 1) fu x J (by omega) (by omega) hJ
      rw [hsplit, List.map_append, fld_app]
      by_cases hu : un.testBit i = true
      · rw [if_pos hu, if_neg (show ¬ (1 : Int32) = 0 by decide), ep, ob_s]
        have tail : (f (i + 1) = 0 ∨ f (i + 1) = q + 1) → tl8 rec fu 64 a (nI un) (nI (q + 1)) (nI (i + 1)) (MM n x w (u1 I 74 C) L Q D) = some (MM n (fld c (((List.range' (i + 1) (15 - (i + 1))).flatMap (subP f c q fr un)).map (ovr t)) (fld c ((subP f c q fr un i).map (ovr t)) (x, I))).1 w (u1 (fld c (((List.range' (i + 1) (15 - (i + 1))).flatMap (subP f c q fr un)).map (ovr t)) (fld c ((subP f c q fr un i).map (ovr t)) (x, I))).2 74 C) L Q D) := fun hpin => by
          unfold tl8
          rw [e01, ob_s, hA2, hasN (by omega) (by omega), ob_s]
          by_cases hh : ho.testBit (q + i + 1) = true
          · have : subP f c q fr un i = [] := by
              unfold subP
              rw [if_neg]
              intro z
              have := z.2.1
              rw [hR, hh] at this
              simp at this
            rw [if_pos hh, if_neg (show ¬ (1 : Int32) = 0 by decide), this]
            exact next x I hF
          · have hhf : ho.testBit (q + i + 1) = false := by simpa using hh
            rw [if_neg hh, if_pos (show (0 : Int32) = 0 from rfl), r_64_20, ob_s, k_74 (by omega), ob_s, hC _ (by omega)]
            by_cases h0 : t (q + i + 1) = 0
            · have hfr : fr.testBit (q + i + 1) = true := by
                rw [hR, hhf, h0]
                simp
                omega
              have hsub : subP f c q fr un i = (enuP f (c - (q + 1)) (q + 1) (msk (msk fr (2 ^ q)) (2 ^ (q + i + 1))) (msk un (2 ^ i))).map (fun e => (q, i) :: e) := by
                unfold subP
                rw [if_pos ⟨hu, hfr, hpin⟩]
              have hC' : ∀ j, j < 18 → upd (upd C q (nI (i + 1))) (q + i + 1) (nI (i + 1)) j = nI (upd2 t q i j) := fun j hj => by
                unfold upd2
                by_cases z1 : j = q + i + 1
                · rw [z1, pk_us, if_pos (Or.inr rfl)]
                · rw [pk_un z1]
                  by_cases z2 : j = q
                  · rw [z2, pk_us, if_pos (Or.inl rfl)]
                  · rw [pk_un z2, if_neg (by omega), hC _ hj]
              have hback : upd (upd (upd (upd C q (nI (i + 1))) (q + i + 1) (nI (i + 1))) q 0) (q + i + 1) 0 = C := by
                funext j
                by_cases z1 : j = q + i + 1
                · rw [z1, pk_us, hC _ (by omega), h0]; rfl
                · rw [pk_un z1]
                  by_cases z2 : j = q
                  · rw [z2, pk_us, hC _ (by omega), htq]; rfl
                  · rw [pk_un z2, pk_un z1, pk_un z2]
              have hmap : ((enuP f (c - (q + 1)) (q + 1) (msk (msk fr (2 ^ q)) (2 ^ (q + i + 1))) (msk un (2 ^ i))).map (ovr (upd2 t q i))) = (subP f c q fr un i).map (ovr t) := by
                rw [hsub, List.map_map]
                refine List.map_congr_left fun e _ => ?_
                exact ovr_upd htq h0
              have hcall : rec (MM n x w (u1 I 74 (upd (upd C q (nI (i + 1))) (q + i + 1) (nI (i + 1)))) L Q D) 64 a (nI (q + 1) + 1) (nI un &&& (((1 : Int32) <<< ((nI (i + 1) - 1) &&& 31)) ^^^ (-1 : Int32))) = some (MM n (fld c ((subP f c q fr un i).map (ovr t)) (x, I)).1 w (u1 (fld c ((subP f c q fr un i).map (ovr t)) (x, I)).2 74 (upd (upd C q (nI (i + 1))) (q + i + 1) (nI (i + 1)))) L Q D) := by
                rw [hA0, sh1 i (by omega), liN, msk_nI, nI_1, hrec i x I _ (by omega) hu hfr hF hC', hmap]
              rw [if_pos (show nI (t (q + i + 1)) ≤ 0 by rw [h0]; decide), ob_s, hA1, k_s74 (by omega), ob_s, r_64_20, ob_s, k_s74 (by omega), ob_s, o_64, if_pos rfl, hcall, ob_s, r_64_20, ob_s, k_s74 (by omega), ob_s, r_64_20, ob_s, k_s74 (by omega), ob_s, hback]
              exact next _ _ (hF.cong (fld_n h75 h77 _ _))
            · have hnil : subP f c q fr un i = [] := by
                unfold subP
                rw [if_neg]
                intro z
                have := z.2.1
                rw [hR] at this
                simp only [Bool.and_eq_true, decide_eq_true_eq] at this
                exact h0 this.2
              have := ht (q + i + 1)
              rw [if_neg (nI_nle (by omega) (by omega)), hnil]
              exact next x I hF
        by_cases hp0 : f (i + 1) = 0
        · rw [if_pos (show nI (f (i + 1)) ≤ 0 by rw [hp0]; decide)]
          exact tail (Or.inl hp0)
        · rw [if_neg (nI_nle (by omega) (by omega)), ob_s]
          by_cases hp1 : f (i + 1) = q + 1
          · rw [if_pos (show nI (f (i + 1)) = nI (q + 1) by rw [hp1])]
            exact tail (Or.inr hp1)
          · have : subP f c q fr un i = [] := by
              unfold subP
              rw [if_neg]
              intro z
              omega
            rw [if_neg (show ¬ nI (f (i + 1)) = nI (q + 1) from fun z => hp1 ((nI_eq (by omega) (by omega)).mp z)), this]
            exact next x I hF
      · have : subP f c q fr un i = [] := by
          unfold subP
          rw [if_neg (fun z => hu z.1)]
        rw [if_neg hu, if_pos (show (0 : Int32) = 0 from rfl), this]
        exact next x I hF
theorem m_fills3 {fr un : Nat} {t : Nat → Nat} {C : Nat → Int32} {x I : Nat → Nat → Int32} {rec : Hp → Nat → Nat → Int32 → Int32 → Option Hp} (ha : aM a) (hc : c ≤ 18) (hho : ho < 2 ^ 18) (hR : Rel c ho t fr) (hC : ∀ j, j < 18 → C j = nI (t j)) (ht : ∀ j, t j ≤ 15) (hF : FrM0 I a c ho pa f) : ∀ (m q fu : Nat), q + m ≤ c → (∀ k, q ≤ k → k < q + m → fr.testBit k = false) → f_X7_fills_3 rec (m + fu) 64 a (nI un) (nI (q + 1)) (MM n x w (u1 I 74 C) L Q D) = f_X7_fills_3 rec fu 64 a (nI un) (nI (q + m + 1)) (MM n x w (u1 I 74 C) L Q D)
  | 0, q, fu, _, _ => by rw [Nat.zero_add, Nat.add_zero]
  | m + 1, q, fu, h1, h2 => by
    have h74 : a ≠ 74 := by rcases ha with rfl | rfl <;> decide
    have e0 : ∀ (k : Nat), k < 19 → aI (MM n x w (u1 I 74 C) L Q D) 0 a (nI k) = some (I a k) := fun k hk => k_n h74 ha.s hk (by decide)
    have e00 : aI (MM n x w (u1 I 74 C) L Q D) 0 a 0 = some (nI c) := by rw [← hF.1]; exact e0 0 (by omega)
    have e01 : aI (MM n x w (u1 I 74 C) L Q D) 0 a 1 = some (nI ho) := by rw [← hF.2.1]; exact e0 1 (by omega)
    have hA1 : nI (q + 1) - 1 = nI q := nI_pred _
    have hq := h2 q (by omega) (by omega)
    rw [hR q] at hq
    have nx : f_X7_fills_3 rec (m + fu) 64 a (nI un) (nI (q + 1) + 1) (MM n x w (u1 I 74 C) L Q D) = f_X7_fills_3 rec fu 64 a (nI un) (nI (q + (m + 1) + 1)) (MM n x w (u1 I 74 C) L Q D) := by
      rw [nI_1, m_fills3 ha hc hho hR hC ht hF m (q + 1) fu (by omega) (fun k k1 k2 => h2 k (by omega) (by omega)), show q + 1 + m = q + (m + 1) by omega]
    rw [show m + 1 + fu = (m + fu) + 1 by omega, f_X7_fills_3, e00, ob_s, if_neg (nI_nlt (by omega) (by omega)), e01, ob_s, hA1, hasN (by omega) (by omega), ob_s]
    by_cases hh : ho.testBit q = true
    · rw [if_pos hh, if_neg (show ¬ (1 : Int32) = 0 by decide)]
      exact nx
    · have hhf : ho.testBit q = false := by simpa using hh
      rw [hhf] at hq
      simp at hq
      have h0 : t q ≠ 0 := hq (by omega)
      have := ht q
      rw [if_neg hh, if_pos (show (0 : Int32) = 0 from rfl), r_64_20, ob_s, k_74 (by omega), ob_s, hC _ (by omega), if_neg (nI_nle (by omega) (by omega))]
      exact nx
theorem enuP_at {j q fr un : Nat} (h : fr.testBit q = true) (hj : q + (j + 1) = c) : enuP f (j + 1) q fr un = (List.range' 0 (15 - 0)).flatMap (subP f c q fr un) := by
  rw [enuP, if_pos h, range_15]
  congr 1
  funext i
  unfold subP
  rw [show c - (q + 1) = j by omega]
theorem enuP_skip : ∀ (t j q fr un : Nat), (∀ k, q ≤ k → k < q + t → fr.testBit k = false) → enuP f (t + j) q fr un = enuP f j (q + t) fr un
  | 0, j, q, fr, un, _ => by rw [Nat.zero_add, Nat.add_zero]
  | t + 1, j, q, fr, un, h => by
    rw [show t + 1 + j = (t + j) + 1 by omega, enuP, if_neg (by rw [h q (by omega) (by omega)]; decide), enuP_skip t j (q + 1) fr un (fun k h1 h2 => h k (by omega) (by omega)), show q + 1 + t = q + (t + 1) by omega]
theorem m_fillN (ha : aM a) (hc : c ≤ 18) (hho : ho < 2 ^ 18) (hf : ∀ d, d < 16 → f d ≤ 18) : ∀ (fu q fr un : Nat) (t : Nat → Nat) (C : Nat → Int32) (x I : Nat → Nat → Int32), q ≤ c → c - q ≤ fu → un < 2 ^ 15 → Rel c ho t fr → (∀ j, j < 18 → C j = nI (t j)) → (∀ j, t j ≤ 15) → FrM0 I a c ho pa f →
    f_X7_fills (fu + 1) (MM n x w (u1 I 74 C) L Q D) 64 a (nI (q + 1)) (nI un) = some (MM n (fld c ((enuP f (c - q) q fr un).map (ovr t)) (x, I)).1 w (u1 (fld c ((enuP f (c - q) q fr un).map (ovr t)) (x, I)).2 74 C) L Q D) := by
  have h74 : a ≠ 74 := by rcases ha with rfl | rfl <;> decide
  intro fu
  induction fu with
  | zero =>
    intro q fr un t C x I hq hfu hun hR hC ht hF
    obtain rfl : q = c := by omega
    rw [f_X7_fills, f_X7_fills_3, show aI (MM n x w (u1 I 74 C) L Q D) 0 a 0 = some (nI q) by rw [← hF.1]; exact k_n (j := 0) h74 ha.s (by decide) (by decide), ob_s, if_pos (nI_lt (by omega) (by omega)), ob_s, if_neg (nI_ge (by omega) (by omega)), show q - q = 0 by omega, enuP]
    by_cases h0 : un = 0
    · subst h0
      rw [if_pos (show (0 : Nat) = 0 from rfl), if_pos (show nI 0 = 0 from rfl), o_64, if_pos rfl, m_counts ha hc hF.1 (fun j hj => hC j (by omega)) (fun j _ => ht j), ob_s, List.map_cons, ovr_nil]
      rfl
    · rw [if_neg (nI_ne0 (by omega) (by omega)), if_neg h0]
      rfl
  | succ fu ih =>
    intro q fr un t C x I hq hfu hun hR hC ht hF
    obtain ⟨m, ht1, ht2, ht3⟩ := first_free fr c (c - q) q (by omega)
    rw [f_X7_fills, show 4096 = m + ((4095 - m) + 1) by omega, m_fills3 ha hc hho hR hC ht hF m q _ ht1 ht2, show c - q = m + (c - (q + m)) by omega, enuP_skip m _ q fr un ht2]
    have hge : q ≤ q + m := Nat.le_add_right _ _
    generalize q + m = p at *
    clear ht2
    by_cases hpc2 : p = c
    · subst hpc2
      rw [f_X7_fills_3, show aI (MM n x w (u1 I 74 C) L Q D) 0 a 0 = some (nI p) by rw [← hF.1]; exact k_n (j := 0) h74 ha.s (by decide) (by decide), ob_s, if_pos (nI_lt (by omega) (by omega)), ob_s, if_neg (nI_ge (by omega) (by omega)), show p - p = 0 by omega, enuP]
      by_cases h0 : un = 0
      · subst h0
        rw [if_pos (show (0 : Nat) = 0 from rfl), if_pos (show nI 0 = 0 from rfl), o_64, if_pos rfl, m_counts ha hc hF.1 (fun j hj => hC j (by omega)) (fun j _ => ht j), ob_s, List.map_cons, ovr_nil]
        rfl
      · rw [if_neg (nI_ne0 (by omega) (by omega)), if_neg h0]
        rfl
    · have hpc : p < c := by omega
      have hbp : fr.testBit p = true := by
        rcases ht3 with z | z
        · omega
        · exact z
      have hb2 := hbp
      rw [hR p] at hb2
      simp only [Bool.and_eq_true, decide_eq_true_eq, Bool.not_eq_true'] at hb2
      rw [f_X7_fills_3, show aI (MM n x w (u1 I 74 C) L Q D) 0 a 0 = some (nI c) by rw [← hF.1]; exact k_n (j := 0) h74 ha.s (by decide) (by decide), ob_s, if_neg (nI_nlt (by omega) (by omega)), show aI (MM n x w (u1 I 74 C) L Q D) 0 a 1 = some (nI ho) by rw [← hF.2.1]; exact k_n (j := 1) h74 ha.s (by decide) (by decide), ob_s, show nI (p + 1) - 1 = nI p from nI_pred _, hasN (by omega) (by omega), ob_s, hb2.1.2, if_neg (show ¬ false = true by decide), if_pos (show (0 : Int32) = 0 from rfl), r_64_20, ob_s, k_74 (by omega), ob_s, hC _ (by omega), if_pos (show nI (t p) ≤ 0 by rw [hb2.2]; decide), ob_s, if_pos (nI_le (by omega) (by omega)), show c - p = (c - (p + 1)) + 1 by omega, enuP_at (c := c) hbp (by omega)]
      exact m_fills63 ha hc hpc hho hun hf hR hbp hC ht (fun i x I C' hi hu hfi hF' hC' => ih (p + 1) _ _ (upd2 t p i) C' x I (by omega) (by omega) (msk_lt hun) hR.upd hC' (fun j => by
        unfold upd2
        split
        · omega
        · exact ht j) hF') 15 0 4096 x I (by omega) (by omega) hF
end MFI
