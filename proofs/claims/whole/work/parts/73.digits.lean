/-! digits, weights -/
def dg (pa d : Nat) : Nat := if pa.testBit (d - 1) = true then fb_ct (fun i => pa.testBit i) d else 0
def VV (c pa : Nat) (p : Nat × Nat) : Int64 := lN (dg pa (p.2 + 1) * (10 ^ (c - 1 - p.1) + 10 ^ (c - 2 - p.1 - p.2)))
section DIG
variable {n : Nat} {w : Int64} {Q : Nat → Nat → Option Nat} {D : Nat → Bool} {b N a c ho pa : Nat} {f : Nat → Nat}
theorem c_hp1 {x I : Nat → Nat → Int32} {L : Nat → Nat → Int64} {i : Nat} (hF : isF D a) (hx : FrC x I a c ho pa f) (hi : i < 15) (h : pa.testBit i = true) : f_X2_hasPair (MM n x w I L Q D) a (nI (i + 1)) = some 1 := by
  rw [c_hasPair hF hx (by omega), if_pos ⟨by omega, by omega, by rw [Nat.add_sub_cancel]; exact h⟩]
theorem c_hp0 {x I : Nat → Nat → Int32} {L : Nat → Nat → Int64} {i : Nat} (hF : isF D a) (hx : FrC x I a c ho pa f) (hi : i < 15) (h : ¬ pa.testBit i = true) : f_X2_hasPair (MM n x w I L Q D) a (nI (i + 1)) = some 0 := by
  rw [c_hasPair hF hx (by omega), if_neg (fun z => h (by have := z.2.2; rw [Nat.add_sub_cancel] at this; exact this))]
theorem c_pl1 {x I : Nat → Nat → Int32} {L : Nat → Nat → Int64} {q : Nat} (hF : isF D a) (hx : FrC x I a c ho pa f) (hc : c ≤ 18) (h : q < c) : f_X2_hasPlace (MM n x w I L Q D) a (nI (q + 1)) = some 1 := by
  rw [c_hasPlace hF hx.1 hc (by omega), if_pos (by omega)]
theorem c_pl0 {x I : Nat → Nat → Int32} {L : Nat → Nat → Int64} {q : Nat} (hF : isF D a) (hx : FrC x I a c ho pa f) (hc : c ≤ 18) (hq : q < 18) (h : ¬ q < c) : f_X2_hasPlace (MM n x w I L Q D) a (nI (q + 1)) = some 0 := by
  rw [c_hasPlace hF hx.1 hc (by omega), if_neg (by omega)]
theorem z10 : ¬ (1 : Int32) = 0 := by decide
theorem z00 : (0 : Int32) = 0 := rfl
theorem ct_pc {k : Nat} (hk : k ≤ 18) : fb_ct (fun i => pa.testBit i) k ≤ pc pa := by rw [pc_ct]; exact fb_ct_mono _ hk
theorem c_nameDigits_l {x : Nat → Nat → Int32} {L : Nat → Nat → Int64} (hb : Fi b N) (hF : isF D a) (hw : WF c ho pa f) (hab : a + 1 ≠ b + 2 ∧ a + 1 ≠ b + 3) : ∀ (j u fu : Nat) (I : Nat → Nat → Int32), u + j = 15 → j < fu → FrC x I a c ho pa f → (∀ d, 1 ≤ d → d ≤ u → I (b + 2) d = nI (dg pa d)) → (∀ d, 1 ≤ d → d ≤ u → pa.testBit (d - 1) = true → I (b + 3) (dg pa d) = nI d) →
    ∃ I', f_X1_nameDigits_4 fu b a (nI (fb_ct (fun i => pa.testBit i) u)) (nI (u + 1)) (MM n x w I L Q D) = some (MM n x w I' L Q D) ∧ (∀ d, 1 ≤ d → d ≤ 15 → I' (b + 2) d = nI (dg pa d)) ∧ (∀ d, 1 ≤ d → d ≤ 15 → pa.testBit (d - 1) = true → I' (b + 3) (dg pa d) = nI d) ∧ ∀ e, e ≠ b + 2 → e ≠ b + 3 → I' e = I e
  | 0, u, fu, I, h, hf, hx, h1, h2 => by
    obtain ⟨fu, rfl⟩ : ∃ n9, fu = n9 + 1 := ⟨fu - 1, by omega⟩
    obtain rfl : u = 15 := by omega
    exact ⟨I, by rw [f_X1_nameDigits_4, if_pos (by decide)], h1, h2, fun _ _ _ => rfl⟩
  | j + 1, u, fu, I, h, hf, hx, h1, h2 => by
    obtain ⟨fu, rfl⟩ : ∃ n9, fu = n9 + 1 := ⟨fu - 1, by omega⟩
    have hx1 : ∀ (I9 : Nat → Nat → Int32), I9 (a + 1) = I (a + 1) → FrC x I9 a c ho pa f := fun I9 e => by
      unfold FrC at *
      rw [e]
      exact hx
    have ea : (s2 I (b + 2) (u + 1) 0) (a + 1) = I (a + 1) := by unfold s2; rw [u1_n hab.1]
    rw [f_X1_nameDigits_4, if_neg (show ¬ (15 : Int32) < nI (u + 1) from nI_nlt (a := 15) (by omega) (by decide)), Fi_r2 hb, ob_s, a_set (Fi_s3 hb) (Or.inl rfl) (by omega) (by decide), ob_s, F_o hF, if_pos rfl]
    by_cases ht : pa.testBit u = true
    · have hcs : fb_ct (fun i => pa.testBit i) (u + 1) = fb_ct (fun i => pa.testBit i) u + 1 := by rw [fb_ct_succ, if_pos ht]
      have h9 := ct_pc (pa := pa) (k := u + 1) (by omega)
      have hp9 := hw.2.2.2.1
      have hdg : dg pa (u + 1) = fb_ct (fun i => pa.testBit i) (u + 1) := by unfold dg; rw [Nat.add_sub_cancel, if_pos ht]
      rw [c_hp1 hF (hx1 _ ea) (by omega) ht, ob_s, if_neg z10, if_neg (show ¬ (9 : Int32) ≤ nI (fb_ct (fun i => pa.testBit i) u) from nI_ge (b := 9) (by omega) (by decide)), Fi_r2 hb, ob_s, a_set (Fi_s3 hb) (Or.inl rfl) (by omega) (by decide), ob_s, Fi_r3 hb, ob_s, nI_1, ← hcs, a_set (Fi_s4 hb) (Or.inl rfl) (by omega) (by decide), ob_s, nI_1]
      obtain ⟨I', e1, e2, e3, e4⟩ := c_nameDigits_l (x := x) (L := L) hb hF hw hab j (u + 1) fu (s2 (s2 (s2 I (b + 2) (u + 1) 0) (b + 2) (u + 1) (nI (fb_ct (fun i => pa.testBit i) (u + 1)))) (b + 3) (fb_ct (fun i => pa.testBit i) (u + 1)) (nI (u + 1))) (by omega) (by omega) (hx1 _ (by unfold s2; rw [u1_n hab.2, u1_n hab.1, u1_n hab.1])) (fun d d1 d2 => by
          rw [s2_at, if_neg (by omega), s2_at]
          by_cases z : d = u + 1
          · rw [if_pos ⟨rfl, z⟩, z, hdg]
          · rw [if_neg (fun y => z y.2), s2_at, if_neg (fun y => z y.2)]
            exact h1 d d1 (by omega)) (fun d d1 d2 d3 => by
          rw [s2_at]
          by_cases z : d = u + 1
          · rw [if_pos ⟨rfl, by rw [z, hdg]⟩, z]
          · have hlt : dg pa d < fb_ct (fun i => pa.testBit i) (u + 1) := by
              unfold dg
              rw [if_pos d3, hcs]
              have := fb_ct_mono (fun i => pa.testBit i) (m := d) (n := u) (by omega)
              omega
            rw [if_neg (fun y => by omega), s2_at, if_neg (by omega), s2_at, if_neg (by omega)]
            exact h2 d d1 (by omega) d3)
      refine ⟨I', e1, e2, e3, fun e k1 k2 => ?_⟩
      rw [e4 e k1 k2]
      unfold s2
      rw [u1_n k2, u1_n k1, u1_n k1]
    · have hcs : fb_ct (fun i => pa.testBit i) (u + 1) = fb_ct (fun i => pa.testBit i) u := by rw [fb_ct_succ, if_neg ht]; rfl
      have hdg : dg pa (u + 1) = 0 := by unfold dg; rw [Nat.add_sub_cancel, if_neg ht]
      rw [c_hp0 hF (hx1 _ ea) (by omega) ht, ob_s, if_pos z00, nI_1, ← hcs]
      obtain ⟨I', e1, e2, e3, e4⟩ := c_nameDigits_l (x := x) (L := L) hb hF hw hab j (u + 1) fu (s2 I (b + 2) (u + 1) 0) (by omega) (by omega) (hx1 _ ea) (fun d d1 d2 => by
          rw [s2_at]
          by_cases z : d = u + 1
          · rw [if_pos ⟨rfl, z⟩, z, hdg]; rfl
          · rw [if_neg (fun y => z y.2)]
            exact h1 d d1 (by omega)) (fun d d1 d2 d3 => by
          have z : d ≠ u + 1 := fun z => ht (by rw [z, Nat.add_sub_cancel] at d3; exact d3)
          rw [s2_at, if_neg (by omega)]
          exact h2 d d1 (by omega) d3)
      refine ⟨I', e1, e2, e3, fun e k1 k2 => ?_⟩
      rw [e4 e k1 k2]
      unfold s2
      rw [u1_n k1]
theorem c_weigh_l {x I : Nat → Nat → Int32} (hb : Fi b N) (hc : c ≤ 18) : ∀ (p fu : Nat) (L : Nat → Nat → Int64), p ≤ c → p < fu → (∀ j, p < j → j ≤ c → L (b + 1) j = lN (10 ^ (c - j))) →
    ∃ L', f_X1_weighPlaces_21 fu b (lN (10 ^ (c - p))) (nI p) (MM n x w I L Q D) = some (MM n x w I L' Q D) ∧ (∀ j, 1 ≤ j → j ≤ c → L' (b + 1) j = lN (10 ^ (c - j))) ∧ ∀ e, e ≠ b + 1 → L' e = L e
  | 0, fu, L, h, hf, h1 => by
    obtain ⟨fu, rfl⟩ : ∃ n9, fu = n9 + 1 := ⟨fu - 1, by omega⟩
    exact ⟨L, by rw [f_X1_weighPlaces_21, if_pos (by decide)], fun j j1 j2 => h1 j (by omega) j2, fun _ _ => rfl⟩
  | p + 1, fu, L, h, hf, h1 => by
    obtain ⟨fu, rfl⟩ : ∃ n9, fu = n9 + 1 := ⟨fu - 1, by omega⟩
    obtain ⟨L', e1, e2, e3⟩ := c_weigh_l (x := x) (I := I) hb hc p fu (u1 L (b + 1) (vp_updL (L (b + 1)) (p + 1) (lN (10 ^ (c - (p + 1)))))) (by omega) (by omega) (fun j j1 j2 => by
      rw [u1_e]
      by_cases z : j = p + 1
      · rw [z, pk_uLs]
      · rw [pk_uLn z]; exact h1 j (by omega) j2)
    refine ⟨L', ?_, e2, fun e he => by rw [e3 e he, u1_n he]⟩
    rw [f_X1_weighPlaces_21, if_neg (show ¬ nI (p + 1) < 1 from nI_nlt (b := 1) (by omega) (by omega)), Fi_r1 hb, ob_s, l_set (Fi_s2 hb) (by omega) (by decide), ob_s, pk_m1, show (10 : Int64) = lN 10 from rfl, lN_mul, show 10 ^ (c - (p + 1)) * 10 = 10 ^ (c - p) by rw [← Nat.pow_succ]; congr 1; omega]
    exact e1
theorem c_weigh {x I : Nat → Nat → Int32} {L : Nat → Nat → Int64} (hb : Fi b N) (hF : isF D a) (hab : a ≠ b) (hw : WF c ho pa f) (hx : FrC x I a c ho pa f) : ∃ L', f_X1_weighPlaces (MM n x w I L Q D) b a = some (MM n (s2 x b 6 (nI c)) w I L' Q D) ∧ (∀ j, 1 ≤ j → j ≤ c → L' (b + 1) j = lN (10 ^ (c - j))) ∧ ∀ e, e ≠ b + 1 → L' e = L e := by
  have hc := hw.1
  obtain ⟨L', e1, e2, e3⟩ := c_weigh_l (n := n) (w := w) (Q := Q) (D := D) (x := s2 x b 6 (nI c)) (I := I) hb hc c 4096 L (Nat.le_refl _) (by omega) (fun j j1 j2 => by omega)
  refine ⟨L', ?_, e2, e3⟩
  unfold f_X1_weighPlaces
  rw [F_g0 hF, ob_s, hx.1, li18, if_neg (nI_nlt (by omega) (by omega)), Fi_p6 hb, ob_s, Fi_g6 hb, ob_s, s2_e]
  rw [Nat.sub_self] at e1
  exact e1
theorem c_zero_l {x : Nat → Nat → Int32} {L : Nat → Nat → Int64} (hb : Fi b N) : ∀ (j u fu : Nat) (I : Nat → Nat → Int32), u + j = 15 → j < fu →
    ∃ I', f_X1_countAll_12 fu b a (nI (u + 1)) (MM n x w I L Q D) = f_X1_countAll_12 (fu - j) b a (nI 16) (MM n x w I' L Q D) ∧ ∀ e k, I' e k = if b + 6 + u ≤ e ∧ e ≤ b + 20 ∧ k < 19 then 0 else I e k
  | 0, u, fu, I, h, hf => by
    obtain rfl : u = 15 := by omega
    exact ⟨I, rfl, fun e k => by rw [if_neg (by omega)]⟩
  | j + 1, u, fu, I, h, hf => by
    obtain ⟨fu, rfl⟩ : ∃ n9, fu = n9 + 1 := ⟨fu - 1, by omega⟩
    obtain ⟨I', e1, e2⟩ := c_zero_l (x := x) (L := L) hb j (u + 1) fu (u1 I (b + 5 + (u + 1)) (fa_fill (fun _ => (0 : Int32)) (I (b + 5 + (u + 1))) 19)) (by omega) (by omega)
    refine ⟨I', ?_, fun e k => ?_⟩
    · rw [f_X1_countAll_12, li15, if_neg (nI_nlt (by omega) (by omega)), Fi_r4 hb, ob_s, Fi_R hb (by omega), ob_s, c_fill (len := 19) (by decide) (Fi_f hb (by omega)) (fun I j hj => a_set (Fi_s6 hb (by omega)) (Or.inl rfl) hj (by decide)), ob_s, nI_1, e1, show fu + 1 - (j + 1) = fu - j by omega]
    · rw [e2]
      by_cases z : e = b + 5 + (u + 1)
      · subst z
        rw [if_neg (by omega), u1_e]
        by_cases hk : k < 19
        · rw [fa_fill_in hk, if_pos (by omega)]
        · rw [fa_fill_out (by omega), if_neg (by omega)]
      · rw [u1_n z]
        by_cases y : b + 6 + (u + 1) ≤ e ∧ e ≤ b + 20 ∧ k < 19
        · rw [if_pos y, if_pos (by omega)]
        · rw [if_neg y, if_neg (by omega)]
end DIG
