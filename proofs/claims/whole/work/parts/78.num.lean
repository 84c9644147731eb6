/-! rows as numbers -/
def nmH (pa : Nat) (t : Nat → Nat) : Nat → Nat
  | 0 => 0
  | k + 1 => nmH pa t k * 10 + dg pa (t k)
theorem dg_0 {pa : Nat} : dg pa 0 = 0 := by
  unfold dg
  split
  · rfl
  · rfl
/-- what may stand in a row: nothing, or a distance that is told -/
def okT (pa d : Nat) : Prop := d = 0 ∨ (1 ≤ d ∧ d ≤ 15 ∧ pa.testBit (d - 1) = true)
theorem dg_le {pa d : Nat} (h : pc pa ≤ 9) (hd : okT pa d) : dg pa d ≤ 9 := by
  rcases hd with rfl | ⟨h1, h2, h3⟩
  · rw [dg_0]; omega
  · unfold dg
    rw [if_pos h3]
    exact Nat.le_trans (ct_pc (by omega)) h
theorem dg_lt {pa d e : Nat} (hd : okT pa d) (he : okT pa e) (h : d < e) : dg pa d < dg pa e := by
  rcases he with rfl | ⟨e1, e2, e3⟩
  · omega
  · have : dg pa e = fb_ct (fun i => pa.testBit i) (e - 1) + 1 := by
      unfold dg
      rw [if_pos e3]
      have := fb_ct_succ (fun i => pa.testBit i) (e - 1)
      rw [show e - 1 + 1 = e by omega] at this
      rw [this, if_pos e3]
    rcases hd with rfl | ⟨d1, d2, d3⟩
    · rw [dg_0]; omega
    · have h2 : dg pa d = fb_ct (fun i => pa.testBit i) d := by unfold dg; rw [if_pos d3]
      have := fb_ct_mono (fun i => pa.testBit i) (m := d) (n := e - 1) (by omega)
      omega
theorem dg_inj {pa d e : Nat} (hd : okT pa d) (he : okT pa e) (h : dg pa d = dg pa e) : d = e := by
  by_cases z : d < e
  · have := dg_lt hd he z; omega
  · by_cases y : e < d
    · have := dg_lt he hd y; omega
    · omega
theorem nmH_upd {pa a : Nat} {t t' : Nat → Nat} (h0 : t a = 0) (h : ∀ k, k ≠ a → t' k = t k) : ∀ c, nmH pa t' c = nmH pa t c + if a < c then dg pa (t' a) * 10 ^ (c - 1 - a) else 0
  | 0 => by rw [nmH, nmH, if_neg (by omega)]
  | c + 1 => by
    rw [nmH, nmH, nmH_upd h0 h c]
    by_cases z : a = c
    · subst z
      rw [if_neg (by omega), if_pos (by omega), h0, dg_0, show a + 1 - 1 - a = 0 by omega]
      omega
    · rw [h c (fun y => z y.symm)]
      by_cases y : a < c
      · rw [if_pos y, if_pos (by omega), show c + 1 - 1 - a = (c - 1 - a) + 1 by omega, Nat.pow_succ]
        have : (nmH pa t c + dg pa (t' a) * 10 ^ (c - 1 - a)) * 10 = nmH pa t c * 10 + dg pa (t' a) * (10 ^ (c - 1 - a) * 10) := by rw [Nat.add_mul, Nat.mul_assoc]
        omega
      · rw [if_neg y, if_neg (by omega)]
        omega
theorem rowL_0 {e : List (Nat × Nat)} {c fr un k : Nat} (h : VE fr un e) (hk : fr.testBit k = false) : rowL e k = 0 := by
  by_cases z : rowL e k = 0
  · exact z
  · rw [h.free z] at hk; cases hk
theorem vl_nmH {c pa : Nat} : ∀ {e : List (Nat × Nat)} {fr un : Nat}, VE fr un e → fr < 2 ^ c → vl (VV c pa) e = lN (nmH pa (rowL e) c)
  | [], fr, un, h, hc => by
    have : ∀ k, nmH pa (rowL []) k = 0 := fun k => by
      induction k with
      | zero => rfl
      | succ k ih => rw [nmH, ih, rowL, dg_0]
    rw [this]
    rfl
  | p :: e, fr, un, h, hc => by
    have hb := h.bnd hc (List.mem_cons_self ..)
    have hv := h.2.2.2.2
    have e1 : rowL e p.1 = 0 := rowL_0 (c := c) hv (by rw [msk1, msk1]; simp)
    have e2 : rowL e (p.1 + p.2 + 1) = 0 := rowL_0 (c := c) hv (by rw [msk1]; simp)
    rw [vl, vl_nmH hv (msk_lt (msk_lt hc))]
    unfold VV
    rw [lN_add]
    congr 1
    have u1 := nmH_upd (pa := pa) (a := p.1) (t := rowL e) (t' := fun k => if k = p.1 then p.2 + 1 else rowL e k) e1 (fun k hk => if_neg hk) c
    have u2 := nmH_upd (pa := pa) (a := p.1 + p.2 + 1) (t := fun k => if k = p.1 then p.2 + 1 else rowL e k) (t' := rowL (p :: e)) (by show (if p.1 + p.2 + 1 = p.1 then _ else _) = 0; rw [if_neg (by omega)]; exact e2) (fun k hk => by
      show (if k = p.1 ∨ k = p.1 + p.2 + 1 then _ else _) = if k = p.1 then _ else _
      by_cases z : k = p.1
      · rw [if_pos (Or.inl z), if_pos z]
      · rw [if_neg (fun y => y.elim z hk), if_neg z]) c
    rw [if_pos (by omega)] at u1 u2
    have e3 : rowL (p :: e) (p.1 + p.2 + 1) = p.2 + 1 := by rw [rowL, if_pos (Or.inr rfl)]
    have u1 : nmH pa (fun k => if k = p.1 then p.2 + 1 else rowL e k) c = nmH pa (rowL e) c + dg pa (if p.1 = p.1 then p.2 + 1 else rowL e p.1) * 10 ^ (c - 1 - p.1) := u1
    rw [if_pos rfl] at u1
    rw [u2, u1, e3, Nat.mul_add, show c - 1 - (p.1 + p.2 + 1) = c - 2 - p.1 - p.2 by omega]
    omega
theorem nmH_lt {pa c : Nat} {r t : Nat → Nat} (hp : pc pa ≤ 9) (hr : ∀ k, okT pa (r k)) (ht : ∀ k, okT pa (t k)) (h : LX c r t) : nmH pa r c < nmH pa t c := by
  obtain ⟨q, hq, h1, h2⟩ := h
  have e : ∀ k, k ≤ q → nmH pa r k = nmH pa t k := fun k => by
    induction k with
    | zero => intro _; rfl
    | succ k ih => intro hk; rw [nmH, nmH, ih (by omega), h1 k (by omega)]
  have g : ∀ k, nmH pa r (q + 1 + k) < nmH pa t (q + 1 + k) := fun k => by
    induction k with
    | zero =>
      show nmH pa r (q + 1) < nmH pa t (q + 1)
      rw [nmH, nmH, e q (Nat.le_refl _)]
      have := dg_lt (hr q) (ht q) h2
      omega
    | succ k ih =>
      show nmH pa r (q + 1 + k + 1) < nmH pa t (q + 1 + k + 1)
      rw [nmH, nmH]
      have := dg_le hp (hr (q + 1 + k))
      omega
  have := g (c - (q + 1))
  rw [show q + 1 + (c - (q + 1)) = c by omega] at this
  exact this
theorem nmH_inj {pa : Nat} {r t : Nat → Nat} (hp : pc pa ≤ 9) : ∀ c, (∀ k, k < c → okT pa (r k)) → (∀ k, k < c → okT pa (t k)) → nmH pa r c = nmH pa t c → ∀ k, k < c → r k = t k
  | 0, _, _, _, k, hk => absurd hk (Nat.not_lt_zero k)
  | c + 1, hr, ht, h, k, hk => by
    rw [nmH, nmH] at h
    have a := dg_le hp (hr c (by omega))
    have b := dg_le hp (ht c (by omega))
    by_cases z : k = c
    · subst z
      exact dg_inj (hr k hk) (ht k hk) (by omega)
    · exact nmH_inj hp c (fun i hi => hr i (by omega)) (fun i hi => ht i (by omega)) (by omega) k (by omega)
theorem nmH_cong {pa : Nat} {r t : Nat → Nat} : ∀ c, (∀ k, k < c → r k = t k) → nmH pa r c = nmH pa t c
  | 0, _ => rfl
  | c + 1, h => by rw [nmH, nmH, nmH_cong c (fun k hk => h k (by omega)), h c (by omega)]
theorem nmH_10 {pa : Nat} {t : Nat → Nat} (hp : pc pa ≤ 9) : ∀ c, (∀ k, k < c → okT pa (t k)) → nmH pa t c < 10 ^ c
  | 0, _ => by rw [nmH]; decide
  | c + 1, h => by
    have := nmH_10 hp c (fun k hk => h k (by omega))
    have := dg_le hp (h c (by omega))
    rw [nmH, Nat.pow_succ]
    omega
theorem VE.ok {e : List (Nat × Nat)} {fr un k : Nat} (h : VE fr un e) : okT un (rowL e k) := by
  have := h.lt (k := k)
  by_cases z : rowL e k = 0
  · exact Or.inl z
  · exact Or.inr ⟨by omega, this.1, this.2 z⟩
theorem p18 {c : Nat} (h : c ≤ 18) : 10 ^ c < 2 ^ 63 := Nat.lt_of_le_of_lt (Nat.pow_le_pow_right (by decide) h) (by decide)
theorem FL_pw {c ho pa : Nat} {f : Nat → Nat} : (FL c ho pa f).Pairwise (fun a b => LX c (rowL a) (rowL b)) := by
  unfold FL
  split
  · exact enuP_pw c 0 _ _ (by omega)
  · exact List.Pairwise.nil
/-- the numbers grow -/
theorem FL_grow {c pa fr i j : Nat} {G : List (List (Nat × Nat))} (hp : pc pa ≤ 9) (hV : ∀ e ∈ G, VE fr pa e) (hG : G.Pairwise (fun a b => LX c (rowL a) (rowL b))) (hi : i < G.length) (hj : j < G.length) (h : i < j) : nmH pa (rowL G[i]) c < nmH pa (rowL G[j]) c :=
  nmH_lt hp (fun k => (hV _ (List.getElem_mem hi)).ok) (fun k => (hV _ (List.getElem_mem hj)).ok) (List.pairwise_iff_getElem.mp hG i j hi hj h)
/-! the rank of a number -/
section RON
variable {n : Nat} {x : Nat → Nat → Int32} {w : Int64} {I : Nat → Nat → Int32} {L : Nat → Nat → Int64} {Q : Nat → Nat → Option Nat} {D : Nat → Bool}
theorem c_ron {len m : Nat} {v : Nat → Nat} (hlen : len ≤ 2656) (hm : m < 2 ^ 63) (hv : ∀ i, i < len → v i < 2 ^ 63) (hL : ∀ i, i < len → L 35 i = lN (v i)) (hg : ∀ i j, i < j → j < len → v i < v j) : ∀ (d lo hi fu q : Nat), lo + d = hi → hi ≤ len → d < fu → q + d ≤ 2656 → (∀ i, i < lo → v i < m) → (∀ i, hi ≤ i → i < len → m < v i) →
    ∃ r, f_X1_rankOfNumber_21 fu 14 (lN m) (nI lo) (nI hi - 1) (nI q) (MM n x w I L Q D) = some r ∧ (∀ i, i < len → v i = m → r = nI i) ∧ ((∀ i, i < len → v i ≠ m) → r = NO) := by
  intro d
  induction d using Nat.strongRecOn with
  | _ d ih =>
    intro lo hi fu q h1 h2 hf hq hlo hhi
    obtain ⟨fu, rfl⟩ : ∃ n9, fu = n9 + 1 := ⟨fu - 1, by omega⟩
    have eq5 : ¬ (2656 : Int32) < nI q := nI_nlt (a := 2656) (by omega) (by decide)
    by_cases hz : d = 0
    · have e : nI hi - 1 < nI lo := by
        obtain rfl : lo = hi := by omega
        cases lo with
        | zero => decide
        | succ k => rw [nI_pred]; exact nI_lt (by omega) (by omega)
      refine ⟨NO, ?_, fun i h3 h4 => ?_, fun _ => rfl⟩
      · rw [f_X1_rankOfNumber_21, if_neg eq5, if_pos e]
        rfl
      · by_cases z : i < lo
        · have := hlo i z; omega
        · have := hhi i (by omega) h3; omega
    · obtain ⟨hi, rfl⟩ : ∃ k, hi = k + 1 := ⟨hi - 1, by omega⟩
      have hmid : (lo + hi) / 2 < len ∧ lo ≤ (lo + hi) / 2 ∧ (lo + hi) / 2 ≤ hi := by omega
      have ediv : (nI lo + nI hi) / 2 = nI ((lo + hi) / 2) := by rw [nI_add, li2, pk_div (by omega) (by decide) (by decide)]
      rw [nI_pred, f_X1_rankOfNumber_21, if_neg eq5, if_neg (nI_nlt (by omega) (by omega)), r_14_0, ob_s, ediv, l_at (len := 2656) rfl (by omega) (by decide), ob_s, hL _ hmid.1]
      have hvm := hv _ hmid.1
      by_cases he : v ((lo + hi) / 2) = m
      · refine ⟨nI ((lo + hi) / 2), ?_, fun i h3 h4 => ?_, fun h => absurd he (h _ hmid.1)⟩
        · rw [he, if_pos (lcmp_self _)]
        · congr 1
          by_cases z : (lo + hi) / 2 < i
          · have := hg _ _ z h3; omega
          · by_cases y : i < (lo + hi) / 2
            · have := hg _ _ y hmid.1; omega
            · omega
      · have hne : ¬ lg_cmp (lN (v ((lo + hi) / 2))) (lN m) = 0 := fun z => he (by
          have a := (lg_cmp_ge (lN (v ((lo + hi) / 2))) (lN m)).mp (by rw [z]; decide)
          have b := (lg_cmp_le (lN (v ((lo + hi) / 2))) (lN m)).mp (by rw [z]; decide)
          rw [pk_lLE hm hvm] at a
          rw [pk_lLE hvm hm] at b
          omega)
        rw [if_neg hne, ob_s, l_at (len := 2656) rfl (by omega) (by decide), ob_s, hL _ hmid.1]
        by_cases hl : m < v ((lo + hi) / 2)
        · obtain ⟨r, q1, q2, q3⟩ := ih ((lo + hi) / 2 - lo) (by omega) lo ((lo + hi) / 2) fu (q + 1) (by omega) (by omega) (by omega) (by omega) hlo (fun i h3 h4 => by
            by_cases z : i = (lo + hi) / 2
            · rw [z]; exact hl
            · have := hg ((lo + hi) / 2) i (by omega) h4; omega)
          refine ⟨r, ?_, q2, q3⟩
          rw [if_pos ((lg_cmp_ge _ _).mpr ((pk_lLE hm hvm).mpr (by omega))), nI_1 q]
          exact q1
        · obtain ⟨r, q1, q2, q3⟩ := ih (hi - (lo + hi) / 2) (by omega) ((lo + hi) / 2 + 1) (hi + 1) fu (q + 1) (by omega) h2 (by omega) (by omega) (fun i h3 => by
            by_cases z : i = (lo + hi) / 2
            · rw [z]; omega
            · have := hg i ((lo + hi) / 2) (by omega) hmid.1; omega) hhi
          refine ⟨r, ?_, q2, q3⟩
          rw [nI_pred] at q1
          rw [if_neg (fun z => by have := (pk_lLE hm hvm).mp ((lg_cmp_ge _ _).mp z); omega), nI_1 ((lo + hi) / 2), nI_1 q]
          exact q1
theorem c_rankOfNumber {len m : Nat} {v : Nat → Nat} (h7 : x 14 7 = nI len) (hlen : len ≤ 2656) (hm : m < 2 ^ 63) (hv : ∀ i, i < len → v i < 2 ^ 63) (hL : ∀ i, i < len → L 35 i = lN (v i)) (hg : ∀ i j, i < j → j < len → v i < v j) :
    ∃ r, f_X1_rankOfNumber (MM n x w I L Q D) 14 (lN m) = some r ∧ (∀ i, i < len → v i = m → r = nI i) ∧ ((∀ i, i < len → v i ≠ m) → r = NO) := by
  obtain ⟨r, q1, q2, q3⟩ := c_ron (n := n) (x := x) (w := w) (I := I) (Q := Q) (D := D) hlen hm hv hL hg len 0 len 4096 0 (by omega) (Nat.le_refl _) (by omega) (by omega) (fun i hi => absurd hi (Nat.not_lt_zero i)) (fun i h1 h2 => by omega)
  refine ⟨r, ?_, q2, q3⟩
  unfold f_X1_rankOfNumber
  rw [g_14_7, ob_s, r_14_0, ob_s, n_35, ob_s, h7, if_neg (show ¬ (2656 : Int32) < nI len from nI_nlt (a := 2656) hlen (by decide))]
  exact q1
end RON
