/-! the rank of a row, the row of a rank, the row that is looked at -/
section RK
variable {n : Nat} {x : Nat → Nat → Int32} {w : Int64} {I : Nat → Nat → Int32} {L : Nat → Nat → Int64} {Q : Nat → Nat → Option Nat} {D : Nat → Bool} {c pa : Nat} {t : Nat → Nat}
theorem dg_pos {d : Nat} (h1 : 1 ≤ d) (h2 : d ≤ 15) (h3 : pa.testBit (d - 1) = true) : 0 < dg pa d := by
  have := dg_lt (pa := pa) (d := 0) (e := d) (Or.inl rfl) (Or.inr ⟨h1, h2, h3⟩) (by omega)
  rw [dg_0] at this
  exact this
theorem c_rankOf_l (hc : c ≤ 18) (hp : pc pa ≤ 9) (h6 : x 14 6 = nI c) (hd : ∀ d, 1 ≤ d → d ≤ 15 → I 16 d = nI (dg pa d)) (ht : ∀ k, k < c → I 63 (k + 1) = nI (t k)) (ht2 : ∀ k, k < c → t k < 2 ^ 31) : ∀ (j u fu : Nat), u + j = c → j < fu → (∀ k, k < u → okT pa (t k)) →
    ((∀ k, k < c → okT pa (t k)) → f_X1_rankOf_16 fu 14 63 (lN (nmH pa t u)) (nI (u + 1)) (MM n x w I L Q D) = (f_X1_rankOfNumber (MM n x w I L Q D) 14 (lN (nmH pa t c))).bind fun x2 => some x2) ∧ ((¬ ∀ k, k < c → okT pa (t k)) → f_X1_rankOf_16 fu 14 63 (lN (nmH pa t u)) (nI (u + 1)) (MM n x w I L Q D) = some NO)
  | 0, u, fu, h, hf, hok => by
    obtain ⟨fu, rfl⟩ : ∃ n9, fu = n9 + 1 := ⟨fu - 1, by omega⟩
    obtain rfl : u = c := by omega
    refine ⟨fun _ => ?_, fun z => absurd hok z⟩
    rw [f_X1_rankOf_16, g_14_6, ob_s, h6, if_pos (nI_lt (by omega) (by omega)), o_14, if_pos rfl]
  | j + 1, u, fu, h, hf, hok => by
    obtain ⟨fu, rfl⟩ : ∃ n9, fu = n9 + 1 := ⟨fu - 1, by omega⟩
    have htu := ht2 u (by omega)
    have e0 : aI (MM n x w I L Q D) 0 63 (nI (u + 1)) = some (nI (t u)) := by rw [a_at (len := 19) rfl (Or.inl rfl) (by omega) (by decide), ht u (by omega)]
    have hst : okT pa (t u) → lN (nmH pa t u) * 10 + (nI (dg pa (t u))).toInt64 = lN (nmH pa t (u + 1)) := fun z => by
      have := dg_le hp z
      rw [nI_l (by omega), show (10 : Int64) = lN 10 from rfl, lN_mul, lN_add, nmH]
    have ih : okT pa (t u) → _ := fun z => c_rankOf_l hc hp h6 hd ht ht2 j (u + 1) fu (by omega) (by omega) (fun k hk => by
      by_cases y : k = u
      · rw [y]; exact z
      · exact hok k (by omega))
    have start : f_X1_rankOf_16 (fu + 1) 14 63 (lN (nmH pa t u)) (nI (u + 1)) (MM n x w I L Q D) = (if (15 : Int32) < nI (t u) then some NO else (if nI (t u) = 0 then (if nI (t u) = 0 then (f_X1_rankOf_16 fu 14 63 ((lN (nmH pa t u) * (10 : Int64)) + (0 : Int32).toInt64) (nI (u + 1) + (1)) (MM n x w I L Q D)) else ((gR (MM n x w I L Q D) 14 1 2).bind fun x4 => (aI (MM n x w I L Q D) 0 x4 (nI (t u))).bind fun x5 => f_X1_rankOf_16 fu 14 63 ((lN (nmH pa t u) * (10 : Int64)) + x5.toInt64) (nI (u + 1) + (1)) (MM n x w I L Q D))) else ((gR (MM n x w I L Q D) 14 1 2).bind fun x6 => (aI (MM n x w I L Q D) 0 x6 (nI (t u))).bind fun x7 => if x7 = 0 then (some NO) else (if nI (t u) = 0 then (f_X1_rankOf_16 fu 14 63 ((lN (nmH pa t u) * (10 : Int64)) + (0 : Int32).toInt64) (nI (u + 1) + (1)) (MM n x w I L Q D)) else ((gR (MM n x w I L Q D) 14 1 2).bind fun x8 => (aI (MM n x w I L Q D) 0 x8 (nI (t u))).bind fun x9 => f_X1_rankOf_16 fu 14 63 ((lN (nmH pa t u) * (10 : Int64)) + x9.toInt64) (nI (u + 1) + (1)) (MM n x w I L Q D)))))) := by
      rw [f_X1_rankOf_16, g_14_6, ob_s, h6, if_neg (nI_nlt (by omega) (by omega)), e0, ob_s, if_neg (nI_pos htu)]
      rfl
    by_cases h15 : 15 < t u
    · have hno : ¬ okT pa (t u) := fun z => by rcases z with z | z <;> omega
      refine ⟨fun z => absurd (z u (by omega)) hno, fun _ => ?_⟩
      rw [start, if_pos (show (15 : Int32) < nI (t u) from nI_lt (a := 15) h15 htu)]
    · by_cases h0 : t u = 0
      · have hz : okT pa (t u) := Or.inl h0
        have e1 : f_X1_rankOf_16 (fu + 1) 14 63 (lN (nmH pa t u)) (nI (u + 1)) (MM n x w I L Q D) = f_X1_rankOf_16 fu 14 63 (lN (nmH pa t (u + 1))) (nI (u + 1 + 1)) (MM n x w I L Q D) := by
          have := hst hz
          rw [h0, dg_0] at this
          rw [start, if_neg (show ¬ (15 : Int32) < nI (t u) from nI_nlt (a := 15) (by omega) (by decide)), if_pos (show nI (t u) = 0 by rw [h0]; rfl), if_pos (show nI (t u) = 0 by rw [h0]; rfl), nI_1]
          show f_X1_rankOf_16 fu 14 63 (lN (nmH pa t u) * 10 + (nI 0).toInt64) _ _ = _
          rw [this]
        rw [e1]
        exact ih hz
      · have e2 : aI (MM n x w I L Q D) 0 16 (nI (t u)) = some (nI (dg pa (t u))) := by rw [a_at (len := 16) rfl (Or.inl rfl) (by omega) (by decide), hd _ (by omega) (by omega)]
        have n0 : ¬ nI (t u) = 0 := nI_ne0 (by omega) htu
        by_cases hb : pa.testBit (t u - 1) = true
        · have hz : okT pa (t u) := Or.inr ⟨by omega, by omega, hb⟩
          have hpos := dg_pos (pa := pa) (d := t u) (by omega) (by omega) hb
          have hle := dg_le hp hz
          have e1 : f_X1_rankOf_16 (fu + 1) 14 63 (lN (nmH pa t u)) (nI (u + 1)) (MM n x w I L Q D) = f_X1_rankOf_16 fu 14 63 (lN (nmH pa t (u + 1))) (nI (u + 1 + 1)) (MM n x w I L Q D) := by
            rw [start, if_neg (show ¬ (15 : Int32) < nI (t u) from nI_nlt (a := 15) (by omega) (by decide)), if_neg n0, r_14_2, ob_s, e2, ob_s, if_neg (nI_ne0 hpos (by omega)), if_neg n0, ob_s, e2, ob_s, nI_1, hst hz]
          rw [e1]
          exact ih hz
        · have hno : ¬ okT pa (t u) := fun z => by
            rcases z with z | z
            · exact h0 z
            · exact hb z.2.2
          have hdz : dg pa (t u) = 0 := by unfold dg; rw [if_neg hb]
          refine ⟨fun z => absurd (z u (by omega)) hno, fun _ => ?_⟩
          rw [start, if_neg (show ¬ (15 : Int32) < nI (t u) from nI_nlt (a := 15) (by omega) (by decide)), if_neg n0, r_14_2, ob_s, e2, ob_s, if_pos (show nI (dg pa (t u)) = 0 by rw [hdz]; rfl)]
/-- which of the fillings a row is -/
def fI (c : Nat) (t : Nat → Nat) : List (List (Nat × Nat)) → Option Nat
  | [] => none
  | e :: E => if ∀ k, k < c → rowL e k = t k then some 0 else (fI c t E).map (fun i => i + 1)
theorem fI_some {i : Nat} : ∀ {E : List (List (Nat × Nat))}, fI c t E = some i → ∃ h : i < E.length, ∀ k, k < c → rowL (E[i]) k = t k
  | [], h => by cases h
  | e :: E, h => by
    rw [fI] at h
    split at h
    · rename_i z
      cases h
      exact ⟨by rw [List.length_cons]; omega, z⟩
    · cases q : fI c t E with
      | none => rw [q] at h; cases h
      | some j =>
        rw [q] at h
        have h : some (j + 1) = some i := h
        cases h
        obtain ⟨h1, h2⟩ := fI_some q
        exact ⟨by rw [List.length_cons]; omega, h2⟩
theorem fI_none : ∀ {E : List (List (Nat × Nat))}, fI c t E = none → ∀ i (h : i < E.length), ¬ ∀ k, k < c → rowL (E[i]) k = t k
  | [], _, i, h => absurd h (Nat.not_lt_zero i)
  | e :: E, h, i, hi => by
    rw [fI] at h
    split at h
    · cases h
    · rename_i z
      cases q : fI c t E with
      | some j => rw [q] at h; cases h
      | none =>
        cases i with
        | zero => exact z
        | succ i => exact fI_none q i (by rw [List.length_cons] at hi; omega)
theorem c_rankOf {fr len : Nat} {G : List (List (Nat × Nat))} (hc : c ≤ 18) (hp : pc pa ≤ 9) (hV : ∀ e ∈ G, VE fr pa e) (hfr : fr < 2 ^ c) (hG : G.Pairwise (fun a b => LX c (rowL a) (rowL b))) (hl : G.length ≤ 2656) (h6 : x 14 6 = nI c) (h7 : x 14 7 = nI G.length) (hd : ∀ d, 1 ≤ d → d ≤ 15 → I 16 d = nI (dg pa d)) (hL : ∀ i (h : i < G.length), L 35 i = vl (VV c pa) G[i]) (ht : ∀ k, k < c → I 63 (k + 1) = nI (t k)) (ht2 : ∀ k, k < c → t k < 2 ^ 31) : f_X1_rankOf (MM n x w I L Q D) 14 63 = some (lI (fI c t G)) := by
  have hl1 := c_rankOf_l (n := n) (w := w) (L := L) (Q := Q) (D := D) hc hp h6 hd ht ht2 c 0 4096 (by omega) (by omega) (fun k hk => absurd hk (Nat.not_lt_zero k))
  unfold f_X1_rankOf
  rw [g_14_6, ob_s, n_63, ob_s, h6, if_pos (show nI c < 19 from nI_lt (b := 19) (by omega) (by decide))]
  show f_X1_rankOf_16 4096 14 63 (lN (nmH pa t 0)) (nI (0 + 1)) _ = _
  by_cases hok : ∀ k, k < c → okT pa (t k)
  · rw [hl1.1 hok]
    have h10 := nmH_10 (t := t) hp c hok
    have hp18 := p18 hc
    obtain ⟨r, q1, q2, q3⟩ := c_rankOfNumber (n := n) (w := w) (I := I) (L := L) (Q := Q) (D := D) (m := nmH pa t c) (v := fun i => if h : i < G.length then nmH pa (rowL G[i]) c else 0) h7 hl (by omega) (fun i hi => by
      show (if h : i < G.length then nmH pa (rowL G[i]) c else 0) < _
      rw [dif_pos hi]
      have := nmH_10 (t := rowL G[i]) hp c (fun k _ => (hV _ (List.getElem_mem hi)).ok)
      omega) (fun i hi => by
      show _ = lN (if h : i < G.length then nmH pa (rowL G[i]) c else 0)
      rw [dif_pos hi, hL i hi, vl_nmH (hV _ (List.getElem_mem hi)) hfr]) (fun i j h1 h2 => by
      show (if h : i < G.length then nmH pa (rowL G[i]) c else 0) < (if h : j < G.length then nmH pa (rowL G[j]) c else 0)
      rw [dif_pos (Nat.lt_trans h1 h2), dif_pos h2]
      exact FL_grow hp hV hG _ _ h1)
    rw [q1, ob_s]
    congr 1
    cases hf : fI c t G with
    | some i =>
      obtain ⟨a1, a2⟩ := fI_some hf
      exact q2 i a1 (by
        show (if h : i < G.length then nmH pa (rowL G[i]) c else 0) = _
        rw [dif_pos a1]
        exact nmH_cong c a2)
    | none =>
      refine q3 fun i hi => ?_
      show ¬ (if h : i < G.length then nmH pa (rowL G[i]) c else 0) = _
      rw [dif_pos hi]
      intro z
      exact fI_none hf i hi (nmH_inj hp c (fun k _ => (hV _ (List.getElem_mem hi)).ok) hok z)
  · rw [hl1.2 hok]
    cases hf : fI c t G with
    | none => rfl
    | some i =>
      obtain ⟨a1, a2⟩ := fI_some hf
      refine absurd (fun k hk => ?_) hok
      rw [← a2 k hk]
      exact (hV _ (List.getElem_mem a1)).ok
theorem rkL_none {A : Nat → Int32} : ∀ {T : List (Nat → Nat)} {k : Nat} {r : Int32}, (∀ u ∈ T, ¬ ∀ i, i < c → nI (u i) = A i) → rkL c A k T r = r
  | [], _, _, _ => rfl
  | u :: T, k, r, h => by
    rw [rkL, if_neg (h u (List.mem_cons_self ..))]
    exact rkL_none fun a ha => h a (List.mem_cons_of_mem _ ha)
theorem rkL_fI {A : Nat → Int32} (hA : ∀ k, k < c → A k = nI (t k)) (ht : ∀ k, k < c → t k < 2 ^ 31) : ∀ {G : List (List (Nat × Nat))} {k : Nat} {r : Int32}, (∀ e ∈ G, ∀ i, rowL e i ≤ 15) → G.Pairwise (fun a b => LX c (rowL a) (rowL b)) → rkL c A k (G.map rowL) r = match fI c t G with
    | some i => nI (k + i)
    | none => r
  | [], k, r, _, _ => rfl
  | e :: G, k, r, hle, hG => by
    have hm : ∀ u : List (Nat × Nat), (∀ i, rowL u i ≤ 15) → ((∀ i, i < c → nI (rowL u i) = A i) ↔ ∀ i, i < c → rowL u i = t i) := fun u hu => by
      constructor
      · intro h i hi
        have := h i hi
        rw [hA i hi] at this
        exact (nI_eq (by have := hu i; omega) (ht i hi)).mp this
      · intro h i hi
        rw [hA i hi, h i hi]
    have hle1 := hle e (List.mem_cons_self ..)
    rw [List.map_cons, rkL, fI]
    by_cases z : ∀ i, i < c → rowL e i = t i
    · rw [if_pos ((hm e hle1).mpr z), if_pos z]
      show rkL c A (k + 1) (G.map rowL) (nI k) = nI (k + 0)
      refine rkL_none fun u hu => ?_
      obtain ⟨g, g1, rfl⟩ := List.mem_map.mp hu
      intro y
      have y := (hm g (hle g (List.mem_cons_of_mem _ g1))).mp y
      obtain ⟨q, q1, q2, q3⟩ := (List.pairwise_cons.mp hG).1 g g1
      have a1 := z q q1
      have a2 := y q q1
      omega
    · rw [if_neg (fun y => z ((hm e hle1).mp y)), if_neg z, rkL_fI hA ht (fun a ha => hle a (List.mem_cons_of_mem _ ha)) (List.pairwise_cons.mp hG).2]
      cases q : fI c t G with
      | none => rfl
      | some i =>
        show nI (k + 1 + i) = nI (k + (i + 1))
        congr 1
        omega
/-! take, looks, tell -/
theorem c_take_l (hc : c ≤ 18) (h2 : x 60 2 = nI c) (ht2 : ∀ k, k < c → t k ≤ 60) : ∀ (j u fu : Nat) (I : Nat → Nat → Int32), u + j = c → j < fu → (∀ k, k < c → I 63 (k + 1) = nI (t k)) → (∀ k, k < u → I 61 (k + 1) = nI (t k)) → (∀ d, 1 ≤ d → d ≤ 60 → I 62 d = nI (fst1 t d u)) →
    ∃ I', f_X4_take_14 fu 60 63 (nI (u + 1)) (MM n x w I L Q D) = some (MM n x w I' L Q D) ∧ (∀ k, k < c → I' 61 (k + 1) = nI (t k)) ∧ (∀ d, 1 ≤ d → d ≤ 60 → I' 62 d = nI (fst1 t d c)) ∧ ∀ e, e ≠ 61 → e ≠ 62 → I' e = I e
  | 0, u, fu, I, h, hf, h63, h61, h62 => by
    obtain ⟨fu, rfl⟩ : ∃ n9, fu = n9 + 1 := ⟨fu - 1, by omega⟩
    obtain rfl : u = c := by omega
    exact ⟨I, by rw [f_X4_take_14, g_60_2, ob_s, h2, if_pos (nI_lt (by omega) (by omega))], h61, h62, fun _ _ _ => rfl⟩
  | j + 1, u, fu, I, h, hf, h63, h61, h62 => by
    obtain ⟨fu, rfl⟩ : ∃ n9, fu = n9 + 1 := ⟨fu - 1, by omega⟩
    have htu := ht2 u (by omega)
    have s61 : ∀ k, k < u + 1 → (s2 I 61 (u + 1) (nI (t u))) 61 (k + 1) = nI (t k) := fun k hk => by
      rw [s2_at]
      by_cases z : k = u
      · rw [if_pos ⟨rfl, by omega⟩, z]
      · rw [if_neg (by omega)]; exact h61 k (by omega)
    rw [f_X4_take_14, g_60_2, ob_s, h2, if_neg (nI_nlt (by omega) (by omega)), a_at (a := 63) (len := 19) rfl (Or.inl rfl) (by omega) (by decide), ob_s, h63 u (by omega), r_60_0, ob_s, a_set (a := 61) (len := 122) rfl (Or.inl rfl) (by omega) (by decide), ob_s]
    by_cases h0 : t u = 0
    · rw [if_pos (show nI (t u) < 1 by rw [h0]; decide), nI_1]
      obtain ⟨I', e1, e2, e3, e4⟩ := c_take_l hc h2 ht2 j (u + 1) fu (s2 I 61 (u + 1) (nI (t u))) (by omega) (by omega) (fun k hk => by rw [s2_ne (by omega)]; exact h63 k hk) s61 (fun d d1 d2 => by
        rw [s2_ne (by omega), h62 d d1 d2, fst1]
        split
        · rfl
        · rw [if_neg (by omega)]; congr 1; omega)
      exact ⟨I', e1, e2, e3, fun e k1 k2 => by rw [e4 e k1 k2, s2_row k1]⟩
    · rw [if_neg (show ¬ nI (t u) < 1 from nI_nlt (b := 1) (by omega) (by omega)), if_neg (show ¬ (60 : Int32) < nI (t u) from nI_nlt (a := 60) (by omega) (by decide)), r_60_1, ob_s, a_at (a := 62) (len := 61) rfl (Or.inl rfl) (by omega) (by decide), ob_s, s2_ne (by omega), h62 (t u) (by omega) (by omega)]
      have hfl := fst1_le (r := t) (d := t u) u
      by_cases hz : fst1 t (t u) u = 0
      · rw [if_pos (show nI (fst1 t (t u) u) = 0 by rw [hz]; rfl), ob_s, a_set (a := 62) (len := 61) rfl (Or.inl rfl) (by omega) (by decide), ob_s, nI_1]
        obtain ⟨I', e1, e2, e3, e4⟩ := c_take_l hc h2 ht2 j (u + 1) fu (s2 (s2 I 61 (u + 1) (nI (t u))) 62 (t u) (nI (u + 1))) (by omega) (by omega) (fun k hk => by rw [s2_ne (by omega), s2_ne (by omega)]; exact h63 k hk) (fun k hk => by rw [s2_ne (by omega)]; exact s61 k hk) (fun d d1 d2 => by
          rw [s2_at]
          by_cases z : d = t u
          · rw [if_pos ⟨rfl, z⟩, z, fst1, if_neg (fun y => y hz), if_pos rfl]
          · rw [if_neg (fun y => z y.2), s2_ne (by omega), h62 d d1 d2, fst1]
            split
            · rfl
            · rw [if_neg (fun y => z y.symm)]; congr 1; omega)
        exact ⟨I', e1, e2, e3, fun e k1 k2 => by rw [e4 e k1 k2, s2_row k2, s2_row k1]⟩
      · rw [if_neg (nI_ne0 (by omega) (by omega)), nI_1]
        obtain ⟨I', e1, e2, e3, e4⟩ := c_take_l hc h2 ht2 j (u + 1) fu (s2 I 61 (u + 1) (nI (t u))) (by omega) (by omega) (fun k hk => by rw [s2_ne (by omega)]; exact h63 k hk) s61 (fun d d1 d2 => by
          rw [s2_ne (by omega), h62 d d1 d2, fst1]
          by_cases z : d = t u
          · rw [z, if_pos hz]
          · split
            · rfl
            · rw [if_neg (fun y => z y.symm)]; congr 1; omega)
        exact ⟨I', e1, e2, e3, fun e k1 k2 => by rw [e4 e k1 k2, s2_row k1]⟩
theorem c_clear (m : Nat) (hm : m ≤ 121) : ∃ I', f_X4_clear (MM n x w I L Q D) 60 (nI m) = some (MM n (s2 x 60 2 (nI m)) w I' L Q D) ∧ (∀ k, k < 122 → I' 61 k = 0) ∧ (∀ k, k < 61 → I' 62 k = 0) ∧ ∀ e, e ≠ 61 → e ≠ 62 → I' e = I e := by
  refine ⟨u1 (u1 I 61 (fa_fill (fun _ => 0) (I 61) 122)) 62 (fa_fill (fun _ => 0) ((u1 I 61 (fa_fill (fun _ => 0) (I 61) 122)) 62) 61), ?_, fun k hk => ?_, fun k hk => ?_, fun e e1 e2 => ?_⟩
  · unfold f_X4_clear
    rw [r_60_0, ob_s, c_fill (len := 122) (by decide) n_61 (fun I j hj => a_set (len := 122) rfl (Or.inl rfl) hj (by decide)), ob_s, r_60_1, ob_s, c_fill (len := 61) (by decide) n_62 (fun I j hj => a_set (len := 61) rfl (Or.inl rfl) hj (by decide)), ob_s, r_60_0, ob_s, n_61, ob_s, if_neg (show ¬ (122 : Int32) - 1 < nI m from nI_nlt (a := 121) hm (by decide)), p_60_2, ob_s]
  · rw [u1_n (by decide), u1_e, fa_fill_in hk]
  · rw [u1_e, fa_fill_in hk]
  · rw [u1_n e2, u1_n e1]
theorem c_take (hc : c ≤ 18) (ht2 : ∀ k, k < c → t k ≤ 60) (h63 : ∀ k, k < c → I 63 (k + 1) = nI (t k)) : ∃ I', f_X4_take (MM n x w I L Q D) 60 63 (nI c) = some (MM n (s2 x 60 2 (nI c)) w I' L Q D) ∧ LKC (s2 x 60 2 (nI c)) I' (some c) t ∧ ∀ e, e ≠ 61 → e ≠ 62 → I' e = I e := by
  obtain ⟨I1, c1, c2, c3, c4⟩ := c_clear (n := n) (x := x) (w := w) (I := I) (L := L) (Q := Q) (D := D) c (by omega)
  obtain ⟨I2, e1, e2, e3, e4⟩ := c_take_l (n := n) (x := s2 x 60 2 (nI c)) (w := w) (L := L) (Q := Q) (D := D) (t := t) hc s2_e ht2 c 0 4096 I1 (by omega) (by omega) (fun k hk => by rw [c4 63 (by decide) (by decide)]; exact h63 k hk) (fun k hk => absurd hk (Nat.not_lt_zero k)) (fun d d1 d2 => by rw [c3 d (by omega)]; rfl)
  refine ⟨I2, ?_, ⟨s2_e, e2, e3⟩, fun e k1 k2 => by rw [e4 e k1 k2, c4 e k1 k2]⟩
  unfold f_X4_take
  rw [n_63, ob_s, o_60, if_pos rfl, if_neg (show ¬ (19 : Int32) - 1 < nI c from nI_nlt (a := 18) hc (by decide)), c1, ob_s]
  exact e1
theorem m_looks_l {a la : Nat} (hs : shp[a]? = some (0, la)) (ha : a ≠ 78) (hla : la < 2 ^ 31) (hc : c ≤ 121) (hca : c ≤ la) : ∀ (j u fu : Nat) (I : Nat → Nat → Int32), u + j = c → j < fu → ∃ I', f_X7_looks_7 fu 64 a (nI c) (nI u) (MM n x w I L Q D) = some (MM n x w I' L Q D) ∧ (∀ k, I' 78 k = if u ≤ k ∧ k < c then I a k else I 78 k) ∧ ∀ e, e ≠ 78 → I' e = I e
  | 0, u, fu, I, h, hf => by
    obtain ⟨fu, rfl⟩ : ∃ n9, fu = n9 + 1 := ⟨fu - 1, by omega⟩
    obtain rfl : u = c := by omega
    exact ⟨I, by rw [f_X7_looks_7, if_pos (Int32.le_refl _)], fun k => by rw [if_neg (by omega)], fun _ _ => rfl⟩
  | j + 1, u, fu, I, h, hf => by
    obtain ⟨fu, rfl⟩ : ∃ n9, fu = n9 + 1 := ⟨fu - 1, by omega⟩
    obtain ⟨I', e1, e2, e3⟩ := m_looks_l hs ha hla hc hca j (u + 1) fu (s2 I 78 u (I a u)) (by omega) (by omega)
    refine ⟨I', ?_, fun k => ?_, fun e he => by rw [e3 e he, s2_row he]⟩
    · rw [f_X7_looks_7, if_neg (nI_ge (by omega) (by omega)), r_64_27, ob_s, a_at hs (Or.inl rfl) (by omega) hla, ob_s, a_set (a := 78) (len := 121) rfl (Or.inl rfl) (by omega) (by decide), ob_s, nI_1]
      exact e1
    · rw [e2, s2_row ha, s2_at]
      by_cases z : k = u
      · rw [if_neg (by omega), if_pos ⟨rfl, z⟩, if_pos (by omega), z]
      · rw [if_neg (c := 78 = 78 ∧ k = u) (fun y => z y.2)]
        by_cases y : u + 1 ≤ k ∧ k < c
        · rw [if_pos y, if_pos (by omega)]
        · rw [if_neg y, if_neg (by omega)]
theorem m_looks {a la : Nat} (hs : shp[a]? = some (0, la)) (ha : a ≠ 78) (hla : la < 2 ^ 31) (hc : c ≤ 121) (hca : c ≤ la) (ht : ∀ k, k < c → I a k = nI (t k)) : ∃ I', f_X7_looks (MM n x w I L Q D) 64 a (nI c) = some (MM n (s2 x 64 28 (nI c)) w I' L Q D) ∧ LKM (s2 x 64 28 (nI c)) I' (some c) t ∧ ∀ e, e ≠ 78 → I' e = I e := by
  obtain ⟨I', e1, e2, e3⟩ := m_looks_l (n := n) (x := s2 x 64 28 (nI c)) (w := w) (L := L) (Q := Q) (D := D) hs ha hla hc hca c 0 4096 I (by omega) (by omega)
  refine ⟨I', ?_, ⟨s2_e, fun j hj => ?_⟩, e3⟩
  · unfold f_X7_looks
    rw [p_64_28, ob_s]
    exact e1
  · have hj : j < c := hj
    rw [e2, if_pos (by omega), ht j hj]
theorem c_tell_l (hp : pc pa ≤ 9) (hok : ∀ k, k < c → okT pa (t k)) (hc : c ≤ 18) (hd : ∀ d, 1 ≤ d → d ≤ 15 → pa.testBit (d - 1) = true → I 17 (dg pa d) = nI d) : ∀ (p fu : Nat) (J : Nat → Nat → Int32), p ≤ c → p < fu → J 17 = I 17 → ∃ I', f_X1_tell_31 fu 14 63 (lN (nmH pa t p)) (nI p) (MM n x w J L Q D) = some (MM n x w I' L Q D) ∧ (∀ k, k < p → I' 63 (k + 1) = nI (t k)) ∧ (∀ j, p < j → I' 63 j = J 63 j) ∧ ∀ e, e ≠ 63 → I' e = J e
  | 0, fu, J, h, hf, h18 => by
    obtain ⟨fu, rfl⟩ : ∃ n9, fu = n9 + 1 := ⟨fu - 1, by omega⟩
    exact ⟨J, by rw [f_X1_tell_31, if_pos (by decide)], fun k hk => absurd hk (Nat.not_lt_zero k), fun _ _ => rfl, fun _ _ => rfl⟩
  | p + 1, fu, J, h, hf, h18 => by
    obtain ⟨fu, rfl⟩ : ∃ n9, fu = n9 + 1 := ⟨fu - 1, by omega⟩
    have hz := hok p (by omega)
    have hle := dg_le hp hz
    have h10 := nmH_10 (t := t) hp (p + 1) (fun k hk => hok k (by omega))
    have hp18 := p18 (c := p + 1) (by omega)
    have erem : (lN (nmH pa t (p + 1)) - lN (nmH pa t (p + 1)) / (10 : Int64) * (10 : Int64)).toInt32 = nI (dg pa (t p)) := by
      rw [show (10 : Int64) = lN 10 from rfl, pk_lRem (by omega) (by decide) (by decide), lN_i, nmH]
      congr 1
      omega
    have ediv : lN (nmH pa t (p + 1)) / (10 : Int64) = lN (nmH pa t p) := by
      rw [show (10 : Int64) = lN 10 from rfl, pk_lDiv (by omega) (by decide) (by decide), nmH]
      congr 1
      omega
    obtain ⟨I', e1, e2, e3, e4⟩ := c_tell_l hp hok hc hd p fu (s2 J 63 (p + 1) (nI (t p))) (by omega) (by omega) (by rw [s2_row (by decide), h18])
    refine ⟨I', ?_, fun k hk => ?_, fun j hj => ?_, fun e he => by rw [e4 e he, s2_row he]⟩
    · rw [f_X1_tell_31, if_neg (show ¬ nI (p + 1) < 1 from nI_nlt (b := 1) (by omega) (by omega)), erem, ediv]
      by_cases h0 : dg pa (t p) = 0
      · have ht0 : t p = 0 := dg_inj hz (Or.inl rfl) (by rw [h0, dg_0])
        rw [if_pos (show nI (dg pa (t p)) < 1 by rw [h0]; decide), a_set (a := 63) (len := 19) rfl (Or.inl rfl) (by omega) (by decide), ob_s, pk_m1]
        rw [ht0] at e1
        exact e1
      · have htp : t p ≠ 0 := fun z => h0 (by rw [z, dg_0])
        have hz2 : 1 ≤ t p ∧ t p ≤ 15 ∧ pa.testBit (t p - 1) = true := hz.resolve_left htp
        rw [if_neg (show ¬ nI (dg pa (t p)) < 1 from nI_nlt (b := 1) (by omega) (by omega)), if_neg (show ¬ (9 : Int32) < nI (dg pa (t p)) from nI_nlt (a := 9) (by omega) (by decide)), r_14_3, ob_s, a_at (a := 17) (len := 10) rfl (Or.inl rfl) (by omega) (by decide), ob_s, h18, hd (t p) hz2.1 hz2.2.1 hz2.2.2, a_set (a := 63) (len := 19) rfl (Or.inl rfl) (by omega) (by decide), ob_s, pk_m1]
        exact e1
    · by_cases z : k = p
      · rw [z, e3 (p + 1) (by omega), s2_e]
      · exact e2 k (by omega)
    · rw [e3 j (by omega), s2_ne (by omega)]
end RK
