/-! rows of great orders -/
def rowT : List (Nat × Nat) → Nat → Nat
  | [], _ => 0
  | p :: ps, k => if k = p.1 ∨ k = p.2 then p.2 - p.1 else rowT ps k
def fT : List (Nat × Nat) → Nat → Nat
  | [], _ => 0
  | p :: ps, d => if d = p.2 - p.1 then p.1 else fT ps d
def nsL (l r : Nat) : Nat → Nat → List (Nat × Nat) → List (Nat × Nat)
  | _, 0, ps => ps
  | a, j + 1, ps => nsL l r (a + 1) j ((l + a, r - a) :: ps)
def mk0 (m : Nat) : List (Nat × Nat) := (2 * m, 4 * m - 1) :: (2 * m + 1, 6 * m) :: nsL 0 (4 * m - 1) 1 (m - 1) (nsL (m + 2) (3 * m - 1) 0 (m - 2) ((m, m + 1) :: nsL (4 * m) (8 * m) 0 (2 * m) []))
def mk1 (m : Nat) : List (Nat × Nat) := nsL (m + 2) (3 * m + 1) 1 (m - 2) ((m + 1, m + 2) :: (2 * m + 2, 4 * m + 1) :: (2 * m + 1, 6 * m + 2) :: nsL 0 (4 * m + 1) 1 m (nsL (4 * m + 2) (8 * m + 2) 0 (2 * m) []))
def mk2 (m : Nat) : List (Nat × Nat) := (7 * m + 3, 7 * m + 4) :: nsL (5 * m + 2) (7 * m + 3) 1 (m - 1) (nsL (4 * m + 3) (8 * m + 4) 1 (m - 1) ((4 * m + 3, 8 * m + 5) :: (4 * m + 2, 6 * m + 3) :: (2 * m + 1, 6 * m + 2) :: nsL 0 (4 * m + 2) 1 (2 * m) []))
def ilL (m : Nat) : Nat → Nat → List (Nat × Nat) → List (Nat × Nat)
  | _, 0, ps => ps
  | a, j + 1, ps => ilL m (a + 1) j ((5 * m + 2 + a, 7 * m + 3 - a) :: (4 * m + 3 + a, 8 * m + 4 - a) :: ps)
def ml2 (m : Nat) : List (Nat × Nat) := (7 * m + 3, 7 * m + 4) :: ilL m 1 (m - 1) ((4 * m + 3, 8 * m + 5) :: (4 * m + 2, 6 * m + 3) :: (2 * m + 1, 6 * m + 2) :: nsL 0 (4 * m + 2) 1 (2 * m) [])
def okO (o : Nat) : Bool := (o == 6 || (decide (8 ≤ o) && decide (o ≤ 60))) && !(o % 4 == 3)
def plO (o : Nat) : Nat := if o % 4 = 2 then 2 * o + 1 else 2 * o
def psO (o : Nat) : List (Nat × Nat) := if o % 4 = 0 then mk0 (o / 4) else if o % 4 = 1 then mk1 (o / 4) else mk2 (o / 4)
def pmO (o : Nat) : List (Nat × Nat) := if o % 4 = 0 then mk0 (o / 4) else if o % 4 = 1 then mk1 (o / 4) else ml2 (o / 4)
def chk1 (ps : List (Nat × Nat)) (pl k : Nat) : Bool := let d := rowT ps (k + 1); d == 0 || (decide (d ≤ 60) && decide (k < pl) && !(fT ps d == 0) && (fT ps d == k + 1 || fT ps d + d == k + 1))
def chk2 (ps : List (Nat × Nat)) (pl d : Nat) : Bool := let f := fT ps d; f == 0 || (decide (f + d ≤ pl) && rowT ps f == d && rowT ps (f + d) == d)
def chkO (o : Nat) : Bool := ((List.range 121).all fun k => chk1 (psO o) (plO o) k && (rowT (pmO o) (k + 1) == rowT (psO o) (k + 1))) && ((List.range 60).all fun d => chk2 (psO o) (plO o) (d + 1))
theorem chkO_all : ∀ o, o < 61 → okO o = true → chkO o = true := by decide +kernel
/-- the row of an order, from 0 on -/
def roO (o : Nat) : Nat → Nat := fun j => rowT (psO o) (j + 1)
theorem chk1_ok {o k : Nat} (ho : o < 61) (hok : okO o = true) (hk : k < 121) : (roO o k ≠ 0 → roO o k ≤ 60 ∧ k < plO o ∧ fT (psO o) (roO o k) ≠ 0 ∧ (fT (psO o) (roO o k) = k + 1 ∨ fT (psO o) (roO o k) + roO o k = k + 1)) ∧ rowT (pmO o) (k + 1) = roO o k := by
  have h := chkO_all o ho hok
  unfold chkO at h
  rw [Bool.and_eq_true, List.all_eq_true] at h
  have h1 := h.1 k (List.mem_range.mpr hk)
  rw [Bool.and_eq_true, beq_iff_eq] at h1
  refine ⟨fun hne => ?_, h1.2⟩
  have h2 := h1.1
  unfold chk1 at h2
  unfold roO at *
  simp only [Bool.or_eq_true, Bool.and_eq_true, beq_iff_eq, decide_eq_true_eq, Bool.not_eq_true', beq_eq_false_iff_ne] at h2
  rcases h2 with z | z
  · exact absurd z hne
  · exact ⟨z.1.1.1, z.1.1.2, z.1.2, z.2⟩
theorem chk2_ok {o d : Nat} (ho : o < 61) (hok : okO o = true) (h1 : 1 ≤ d) (h2 : d ≤ 60) (hf : fT (psO o) d ≠ 0) : fT (psO o) d + d ≤ plO o ∧ roO o (fT (psO o) d - 1) = d ∧ roO o (fT (psO o) d + d - 1) = d := by
  have h := chkO_all o ho hok
  unfold chkO at h
  rw [Bool.and_eq_true, List.all_eq_true, List.all_eq_true] at h
  have h3 := h.2 (d - 1) (List.mem_range.mpr (by omega))
  rw [show d - 1 + 1 = d by omega] at h3
  unfold chk2 at h3
  simp only [Bool.or_eq_true, Bool.and_eq_true, beq_iff_eq, decide_eq_true_eq] at h3
  rcases h3 with z | z
  · exact absurd z hf
  · unfold roO
    rw [show fT (psO o) d - 1 + 1 = fT (psO o) d by omega, show fT (psO o) d + d - 1 + 1 = fT (psO o) d + d by omega]
    exact ⟨z.1.1, z.1.2, z.2⟩
theorem plO_le {o : Nat} (ho : o < 61) : plO o ≤ 121 := by unfold plO; split <;> omega
theorem roO_ok {o : Nat} (ho : o < 61) (hok : okO o = true) : LKok (some (plO o)) (roO o) := by
  have hp := plO_le ho
  refine ⟨hp, fun j hj => ?_, fun d hd ⟨j, hj, e⟩ => ?_⟩
  · have hj : j < plO o := hj
    by_cases z : roO o j = 0
    · omega
    · exact ((chk1_ok ho hok (by omega)).1 z).1
  · have hj : j < plO o := hj
    obtain ⟨a1, a2, a3, a4⟩ := (chk1_ok ho hok (by omega : j < 121)).1 (by omega)
    rw [e] at a1 a3 a4
    obtain ⟨b1, b2, b3⟩ := chk2_ok ho hok hd a1 a3
    refine ⟨fT (psO o) d - 1, by show fT (psO o) d - 1 + d < plO o; omega, b2, by rw [show fT (psO o) d - 1 + d = fT (psO o) d + d - 1 by omega]; exact b3, fun j' hj' e' => ?_⟩
    have hj' : j' < plO o := hj'
    obtain ⟨c1, c2, c3, c4⟩ := (chk1_ok ho hok (by omega : j' < 121)).1 (by omega)
    rw [e'] at c4
    omega
theorem roO_first {o d : Nat} (ho : o < 61) (hok : okO o = true) (h1 : 1 ≤ d) (h2 : d ≤ 60) : fT (psO o) d = fst1 (roO o) d (plO o) := by
  have hp := plO_le ho
  have key : ∀ j, j < plO o → roO o j = d → fT (psO o) d ≠ 0 ∧ (fT (psO o) d = j + 1 ∨ fT (psO o) d + d = j + 1) := fun j hj e => by
    obtain ⟨a1, a2, a3, a4⟩ := (chk1_ok ho hok (by omega : j < 121)).1 (by omega)
    rw [e] at a3 a4
    exact ⟨a3, a4⟩
  by_cases z : fst1 (roO o) d (plO o) = 0
  · rw [z]
    have hno := (fst1_0 _).mp z
    by_cases y : fT (psO o) d = 0
    · exact y
    · obtain ⟨b1, b2, b3⟩ := chk2_ok ho hok h1 h2 y
      exact absurd b2 (hno _ (by omega))
  · obtain ⟨c1, c2⟩ := fst1_at _ z
    have c3 := fst1_le (r := roO o) (d := d) (plO o)
    obtain ⟨a3, a4⟩ := key _ (by omega) c1
    obtain ⟨b1, b2, b3⟩ := chk2_ok ho hok h1 h2 a3
    rcases a4 with y | y
    · omega
    · exact absurd b2 (c2 (fT (psO o) d - 1) (by omega))
/-! the class -/
def RepC (I : Nat → Nat → Int32) (ps : List (Nat × Nat)) : Prop := (∀ k, k < 122 → I 61 k = nI (rowT ps k)) ∧ ∀ d, d < 61 → I 62 d = nI (fT ps d)
def RepM (I : Nat → Nat → Int32) (ps : List (Nat × Nat)) : Prop := ∀ k, k < 121 → I 79 k = nI (rowT ps (k + 1))
theorem i3 {x : Int32} : x + 2 - 3 = x - 1 := by
  rw [Int32.sub_eq_add_neg, Int32.sub_eq_add_neg, Int32.add_assoc]
  rfl
theorem i2 {x : Int32} : x + 1 - 2 = x - 1 := by
  rw [Int32.sub_eq_add_neg, Int32.sub_eq_add_neg, Int32.add_assoc]
  rfl
theorem lt_pred {e r : Nat} (he : e < 2 ^ 30) (hr : r < 2 ^ 30) : nI e - 1 < nI r ↔ e ≤ r := by
  cases e with
  | zero => exact ⟨fun _ => Nat.zero_le _, fun _ => neg_lt (by decide) (by omega)⟩
  | succ k =>
    rw [nI_pred, nI_ltI (by omega) (by omega)]
    omega
section MADE
variable {n : Nat} {x : Nat → Nat → Int32} {w : Int64} {L : Nat → Nat → Int64} {Q : Nat → Nat → Option Nat} {D : Nat → Bool} {pl : Nat}
theorem c_twin {I : Nat → Nat → Int32} {ps : List (Nat × Nat)} {l r : Nat} (hx : x 60 2 = nI pl) (hpl : pl ≤ 121) (h1 : 1 ≤ l) (h2 : l < r) (h3 : r ≤ pl) (h4 : r - l ≤ 60) (hR : RepC I ps) : ∃ I', f_X4_twin (MM n x w I L Q D) 60 (nI l) (nI r) = some (MM n x w I' L Q D) ∧ RepC I' ((l, r) :: ps) ∧ ∀ e, e ≠ 61 → e ≠ 62 → I' e = I e := by
  refine ⟨s2 (s2 (s2 I 61 l (nI (r - l))) 61 r (nI (r - l))) 62 (r - l) (nI l), ?_, ⟨fun k hk => ?_, fun d hd => ?_⟩, fun e e1 e2 => by rw [s2_row e2, s2_row e1, s2_row e1]⟩
  · unfold f_X4_twin
    rw [if_neg (show ¬ nI l < 1 from nI_nlt (b := 1) h1 (by omega)), g_60_2, ob_s, hx, if_neg (nI_nlt (by omega) (by omega)), pk_sub (by omega), if_neg (show ¬ nI (r - l) < 1 from nI_nlt (b := 1) (by omega) (by omega)), if_pos (show nI (r - l) ≤ 60 from nI_le (b := 60) h4 (by decide)), r_60_0, ob_s, a_set (a := 61) (len := 122) rfl (Or.inl rfl) (by omega) (by decide), ob_s, r_60_0, ob_s, a_set (a := 61) (len := 122) rfl (Or.inl rfl) (by omega) (by decide), ob_s, r_60_1, ob_s, a_set (a := 62) (len := 61) rfl (Or.inl rfl) (by omega) (by decide), ob_s]
  · rw [s2_ne (by omega), rowT, s2_at]
    by_cases z1 : k = r
    · rw [if_pos ⟨rfl, z1⟩, if_pos (Or.inr z1)]
    · rw [if_neg (fun y => z1 y.2), s2_at]
      by_cases z2 : k = l
      · rw [if_pos ⟨rfl, z2⟩, if_pos (Or.inl z2)]
      · rw [if_neg (fun y => z2 y.2), if_neg (fun y => y.elim z2 z1)]
        exact hR.1 k hk
  · rw [fT, s2_at]
    by_cases z : d = r - l
    · rw [if_pos ⟨rfl, z⟩, if_pos z]
    · rw [if_neg (fun y => z y.2), if_neg z, s2_ne (by omega), s2_ne (by omega)]
      exact hR.2 d hd
theorem c_nest {l r : Nat} (hx : x 60 2 = nI pl) (hpl : pl ≤ 121) (hl : l < 2 ^ 20) (hr : r < 2 ^ 20) : ∀ (j a fu : Nat) (I : Nat → Nat → Int32) (ps : List (Nat × Nat)), (∀ i, a ≤ i → i < a + j → 1 ≤ l + i ∧ l + i < r - i ∧ r - i ≤ pl ∧ r - i - (l + i) ≤ 60) → j < fu → a + j < 2 ^ 20 → RepC I ps →
    ∃ I', f_X4_nest_3 fu 60 (nI l) (nI r) (nI (a + j) - 1) (nI a) (MM n x w I L Q D) = some (MM n x w I' L Q D) ∧ RepC I' (nsL l r a j ps) ∧ ∀ e, e ≠ 61 → e ≠ 62 → I' e = I e
  | 0, a, fu, I, ps, h, hf, ha, hR => by
    obtain ⟨fu, rfl⟩ : ∃ n9, fu = n9 + 1 := ⟨fu - 1, by omega⟩
    exact ⟨I, by rw [f_X4_nest_3, if_pos ((lt_pred (by omega) (by omega)).mpr (by omega))], hR, fun _ _ _ => rfl⟩
  | j + 1, a, fu, I, ps, h, hf, ha, hR => by
    obtain ⟨fu, rfl⟩ : ∃ n9, fu = n9 + 1 := ⟨fu - 1, by omega⟩
    have hi := h a (by omega) (by omega)
    obtain ⟨I1, e1, e2, e3⟩ := c_twin (n := n) (w := w) (L := L) (Q := Q) (D := D) hx hpl hi.1 hi.2.1 hi.2.2.1 hi.2.2.2 hR
    obtain ⟨I2, d1, d2, d3⟩ := c_nest hx hpl hl hr j (a + 1) fu I1 ((l + a, r - a) :: ps) (fun i i1 i2 => h i (by omega) (by omega)) (by omega) (by omega) e2
    refine ⟨I2, ?_, d2, fun e k1 k2 => by rw [d3 e k1 k2, e3 e k1 k2]⟩
    rw [f_X4_nest_3, if_neg (fun z => by have := (lt_pred (by omega) (by omega)).mp z; omega), o_60, if_pos rfl, nI_add, pk_sub (by omega), e1, ob_s, nI_1]
    rw [show a + 1 + j = a + (j + 1) by omega] at d1
    exact d1
theorem c_nestN {l r e a : Nat} {T : Int32} {I : Nat → Nat → Int32} {ps : List (Nat × Nat)} (hx : x 60 2 = nI pl) (hpl : pl ≤ 121) (hl : l < 2 ^ 20) (hr : r < 2 ^ 20) (hT : T = nI e - 1) (hae : a ≤ e) (he : e < 4000) (h : ∀ i, a ≤ i → i < e → 1 ≤ l + i ∧ l + i < r - i ∧ r - i ≤ pl ∧ r - i - (l + i) ≤ 60) (hR : RepC I ps) :
    ∃ I', f_X4_nest (MM n x w I L Q D) 60 (nI l) (nI r) (nI a) T = some (MM n x w I' L Q D) ∧ RepC I' (nsL l r a (e - a) ps) ∧ ∀ e, e ≠ 61 → e ≠ 62 → I' e = I e := by
  obtain ⟨I', e1, e2, e3⟩ := c_nest (n := n) (w := w) (L := L) (Q := Q) (D := D) hx hpl hl hr (e - a) a 4096 I ps (fun i i1 i2 => h i i1 (by omega)) (by omega) (by omega) hR
  refine ⟨I', ?_, e2, e3⟩
  unfold f_X4_nest
  rw [hT]
  rw [show a + (e - a) = e by omega] at e1
  exact e1
theorem c_mk0 {I : Nat → Nat → Int32} {m : Nat} (hx : x 60 2 = nI (8 * m)) (hm : 2 ≤ m) (hm2 : m ≤ 15) (hR : RepC I []) : ∃ I', f_X4_makeLeaving0 (MM n x w I L Q D) 60 (nI m) = some (MM n x w I' L Q D) ∧ RepC I' (mk0 m) ∧ ∀ e, e ≠ 61 → e ≠ 62 → I' e = I e := by
  obtain ⟨I1, a1, b1, c1⟩ := c_nestN (n := n) (w := w) (L := L) (Q := Q) (D := D) (l := 4 * m) (r := 8 * m) (a := 0) (e := 2 * m) (T := (2 : Int32) * nI m - 1) hx (by omega) (by omega) (by omega) (by rw [li2, pk_mul]) (by omega) (by omega) (fun i i1 i2 => by omega) hR
  obtain ⟨I2, a2, b2, c2⟩ := c_twin (n := n) (w := w) (L := L) (Q := Q) (D := D) (l := m) (r := m + 1) hx (by omega) (by omega) (by omega) (by omega) (by omega) b1
  obtain ⟨I3, a3, b3, c3⟩ := c_nestN (n := n) (w := w) (L := L) (Q := Q) (D := D) (l := m + 2) (r := 3 * m - 1) (a := 0) (e := m - 2) (T := nI m - 3) hx (by omega) (by omega) (by omega) (by rw [← i3, show (2 : Int32) = nI 2 from rfl, nI_add, show m - 2 + 2 = m by omega]) (by omega) (by omega) (fun i i1 i2 => by omega) b2
  obtain ⟨I4, a4, b4, c4⟩ := c_nestN (n := n) (w := w) (L := L) (Q := Q) (D := D) (l := 0) (r := 4 * m - 1) (a := 1) (e := m) (T := nI m - 1) hx (by omega) (by omega) (by omega) rfl (by omega) (by omega) (fun i i1 i2 => by omega) b3
  obtain ⟨I5, a5, b5, c5⟩ := c_twin (n := n) (w := w) (L := L) (Q := Q) (D := D) (l := 2 * m + 1) (r := 6 * m) hx (by omega) (by omega) (by omega) (by omega) (by omega) b4
  obtain ⟨I6, a6, b6, c6⟩ := c_twin (n := n) (w := w) (L := L) (Q := Q) (D := D) (l := 2 * m) (r := 4 * m - 1) hx (by omega) (by omega) (by omega) (by omega) (by omega) b5
  refine ⟨I6, ?_, b6, fun e k1 k2 => by rw [c6 e k1 k2, c5 e k1 k2, c4 e k1 k2, c3 e k1 k2, c2 e k1 k2, c1 e k1 k2]⟩
  have q1 : f_X4_nest (MM n x w I L Q D) 60 ((4 : Int32) * nI m) ((8 : Int32) * nI m) 0 ((2 : Int32) * nI m - 1) = some (MM n x w I1 L Q D) := by rw [li4, pk_mul, li8, pk_mul]; exact a1
  have q2 : f_X4_twin (MM n x w I1 L Q D) 60 (nI m) (nI m + 1) = some (MM n x w I2 L Q D) := by rw [nI_1]; exact a2
  have q3 : f_X4_nest (MM n x w I2 L Q D) 60 (nI m + 2) ((3 : Int32) * nI m - 1) 0 (nI m - 3) = some (MM n x w I3 L Q D) := by
    rw [show nI m + 2 = nI (m + 2) from nI_add m 2, show (3 : Int32) * nI m - 1 = nI (3 * m - 1) by rw [show (3 : Int32) = nI 3 from rfl, pk_mul]; exact pk_sub (b := 1) (by omega)]; exact a3
  have q4 : f_X4_nest (MM n x w I3 L Q D) 60 0 ((4 : Int32) * nI m - 1) 1 (nI m - 1) = some (MM n x w I4 L Q D) := by
    rw [show (4 : Int32) * nI m - 1 = nI (4 * m - 1) by rw [show (4 : Int32) = nI 4 from rfl, pk_mul]; exact pk_sub (b := 1) (by omega)]; exact a4
  have q5 : f_X4_twin (MM n x w I4 L Q D) 60 ((2 : Int32) * nI m + 1) ((6 : Int32) * nI m) = some (MM n x w I5 L Q D) := by rw [li2, pk_mul, nI_1, li6, pk_mul]; exact a5
  have q6 : f_X4_twin (MM n x w I5 L Q D) 60 ((2 : Int32) * nI m) ((4 : Int32) * nI m - 1) = some (MM n x w I6 L Q D) := by
    rw [show (4 : Int32) * nI m - 1 = nI (4 * m - 1) by rw [show (4 : Int32) = nI 4 from rfl, pk_mul]; exact pk_sub (b := 1) (by omega), li2, pk_mul]; exact a6
  unfold f_X4_makeLeaving0
  rw [o_60, if_pos rfl, q1, ob_s, o_60, if_pos rfl, q2, ob_s, o_60, if_pos rfl, q3, ob_s, o_60, if_pos rfl, q4, ob_s, o_60, if_pos rfl, q5, ob_s, o_60, if_pos rfl, q6, ob_s]
theorem c_mk1 {I : Nat → Nat → Int32} {m : Nat} (hx : x 60 2 = nI (8 * m + 2)) (hm : 2 ≤ m) (hm2 : m ≤ 14) (hR : RepC I []) : ∃ I', f_X4_makeLeaving1 (MM n x w I L Q D) 60 (nI m) = some (MM n x w I' L Q D) ∧ RepC I' (mk1 m) ∧ ∀ e, e ≠ 61 → e ≠ 62 → I' e = I e := by
  obtain ⟨I1, a1, b1, c1⟩ := c_nestN (n := n) (w := w) (L := L) (Q := Q) (D := D) (l := 4 * m + 2) (r := 8 * m + 2) (a := 0) (e := 2 * m) (T := (2 : Int32) * nI m - 1) hx (by omega) (by omega) (by omega) (by rw [li2, pk_mul]) (by omega) (by omega) (fun i i1 i2 => by omega) hR
  obtain ⟨I2, a2, b2, c2⟩ := c_nestN (n := n) (w := w) (L := L) (Q := Q) (D := D) (l := 0) (r := 4 * m + 1) (a := 1) (e := m + 1) (T := nI m) hx (by omega) (by omega) (by omega) (nI_pred m).symm (by omega) (by omega) (fun i i1 i2 => by omega) b1
  obtain ⟨I3, a3, b3, c3⟩ := c_twin (n := n) (w := w) (L := L) (Q := Q) (D := D) (l := 2 * m + 1) (r := 6 * m + 2) hx (by omega) (by omega) (by omega) (by omega) (by omega) b2
  obtain ⟨I4, a4, b4, c4⟩ := c_twin (n := n) (w := w) (L := L) (Q := Q) (D := D) (l := 2 * m + 2) (r := 4 * m + 1) hx (by omega) (by omega) (by omega) (by omega) (by omega) b3
  obtain ⟨I5, a5, b5, c5⟩ := c_twin (n := n) (w := w) (L := L) (Q := Q) (D := D) (l := m + 1) (r := m + 2) hx (by omega) (by omega) (by omega) (by omega) (by omega) b4
  obtain ⟨I6, a6, b6, c6⟩ := c_nestN (n := n) (w := w) (L := L) (Q := Q) (D := D) (l := m + 2) (r := 3 * m + 1) (a := 1) (e := m - 1) (T := nI m - 2) hx (by omega) (by omega) (by omega) (by rw [← i2, nI_1, show m - 1 + 1 = m by omega]) (by omega) (by omega) (fun i i1 i2 => by omega) b5
  refine ⟨I6, ?_, ?_, fun e k1 k2 => by rw [c6 e k1 k2, c5 e k1 k2, c4 e k1 k2, c3 e k1 k2, c2 e k1 k2, c1 e k1 k2]⟩
  rotate_left
  · unfold mk1
    rw [show m - 2 = m - 1 - 1 by omega, Nat.sub_zero, Nat.add_sub_cancel] at *
    exact b6
  have q1 : f_X4_nest (MM n x w I L Q D) 60 ((4 : Int32) * nI m + 2) ((8 : Int32) * nI m + 2) 0 ((2 : Int32) * nI m - 1) = some (MM n x w I1 L Q D) := by
    rw [li4, pk_mul, li8, pk_mul, show nI (4 * m) + 2 = nI (4 * m + 2) from nI_add _ 2, show nI (8 * m) + 2 = nI (8 * m + 2) from nI_add _ 2]; exact a1
  have q2 : f_X4_nest (MM n x w I1 L Q D) 60 0 ((4 : Int32) * nI m + 1) 1 (nI m) = some (MM n x w I2 L Q D) := by rw [li4, pk_mul, nI_1]; exact a2
  have q3 : f_X4_twin (MM n x w I2 L Q D) 60 ((2 : Int32) * nI m + 1) ((6 : Int32) * nI m + 2) = some (MM n x w I3 L Q D) := by rw [show (6 : Int32) * nI m + 2 = nI (6 * m + 2) by rw [li6, pk_mul]; exact nI_add _ 2, li2, pk_mul, nI_1]; exact a3
  have q4 : f_X4_twin (MM n x w I3 L Q D) 60 ((2 : Int32) * nI m + 2) ((4 : Int32) * nI m + 1) = some (MM n x w I4 L Q D) := by rw [show (2 : Int32) * nI m + 2 = nI (2 * m + 2) by rw [show (2 : Int32) * nI m = nI (2 * m) from pk_mul 2 m]; exact nI_add _ 2, li4, pk_mul, nI_1]; exact a4
  have q5 : f_X4_twin (MM n x w I4 L Q D) 60 (nI m + 1) (nI m + 2) = some (MM n x w I5 L Q D) := by rw [show nI m + 2 = nI (m + 2) from nI_add m 2, nI_1]; exact a5
  have q6 : f_X4_nest (MM n x w I5 L Q D) 60 (nI m + 2) ((3 : Int32) * nI m + 1) 1 (nI m - 2) = some (MM n x w I6 L Q D) := by
    rw [show nI m + 2 = nI (m + 2) from nI_add m 2, li3, pk_mul, nI_1]; exact a6
  unfold f_X4_makeLeaving1
  rw [o_60, if_pos rfl, q1, ob_s, o_60, if_pos rfl, q2, ob_s, o_60, if_pos rfl, q3, ob_s, o_60, if_pos rfl, q4, ob_s, o_60, if_pos rfl, q5, ob_s, o_60, if_pos rfl, q6, ob_s]
theorem c_mk2 {I : Nat → Nat → Int32} {m : Nat} (hx : x 60 2 = nI (8 * m + 5)) (hm : 1 ≤ m) (hm2 : m ≤ 14) (hR : RepC I []) : ∃ I', f_X4_makeLeaving2 (MM n x w I L Q D) 60 (nI m) = some (MM n x w I' L Q D) ∧ RepC I' (mk2 m) ∧ ∀ e, e ≠ 61 → e ≠ 62 → I' e = I e := by
  obtain ⟨I1, a1, b1, c1⟩ := c_nestN (n := n) (w := w) (L := L) (Q := Q) (D := D) (l := 0) (r := 4 * m + 2) (a := 1) (e := 2 * m + 1) (T := (2 : Int32) * nI m) hx (by omega) (by omega) (by omega) (by rw [li2, pk_mul]; exact (nI_pred _).symm) (by omega) (by omega) (fun i i1 i2 => by omega) hR
  obtain ⟨I2, a2, b2, c2⟩ := c_twin (n := n) (w := w) (L := L) (Q := Q) (D := D) (l := 2 * m + 1) (r := 6 * m + 2) hx (by omega) (by omega) (by omega) (by omega) (by omega) b1
  obtain ⟨I3, a3, b3, c3⟩ := c_twin (n := n) (w := w) (L := L) (Q := Q) (D := D) (l := 4 * m + 2) (r := 6 * m + 3) hx (by omega) (by omega) (by omega) (by omega) (by omega) b2
  obtain ⟨I4, a4, b4, c4⟩ := c_twin (n := n) (w := w) (L := L) (Q := Q) (D := D) (l := 4 * m + 3) (r := 8 * m + 5) hx (by omega) (by omega) (by omega) (by omega) (by omega) b3
  obtain ⟨I5, a5, b5, c5⟩ := c_nestN (n := n) (w := w) (L := L) (Q := Q) (D := D) (l := 4 * m + 3) (r := 8 * m + 4) (a := 1) (e := m) (T := nI m - 1) hx (by omega) (by omega) (by omega) rfl (by omega) (by omega) (fun i i1 i2 => by omega) b4
  obtain ⟨I6, a6, b6, c6⟩ := c_nestN (n := n) (w := w) (L := L) (Q := Q) (D := D) (l := 5 * m + 2) (r := 7 * m + 3) (a := 1) (e := m) (T := nI m - 1) hx (by omega) (by omega) (by omega) rfl (by omega) (by omega) (fun i i1 i2 => by omega) b5
  obtain ⟨I7, a7, b7, c7⟩ := c_twin (n := n) (w := w) (L := L) (Q := Q) (D := D) (l := 7 * m + 3) (r := 7 * m + 4) hx (by omega) (by omega) (by omega) (by omega) (by omega) b6
  refine ⟨I7, ?_, b7, fun e k1 k2 => by rw [c7 e k1 k2, c6 e k1 k2, c5 e k1 k2, c4 e k1 k2, c3 e k1 k2, c2 e k1 k2, c1 e k1 k2]⟩
  have m2 : (2 : Int32) * nI m = nI (2 * m) := pk_mul 2 m
  have m4 : (4 : Int32) * nI m = nI (4 * m) := pk_mul 4 m
  have m5 : (5 : Int32) * nI m = nI (5 * m) := pk_mul 5 m
  have m6 : (6 : Int32) * nI m = nI (6 * m) := pk_mul 6 m
  have m7 : (7 : Int32) * nI m = nI (7 * m) := pk_mul 7 m
  have m8 : (8 : Int32) * nI m = nI (8 * m) := pk_mul 8 m
  unfold f_X4_makeLeaving2
  rw [m4, m6, m5, m7, m8, show (2 : Int32) * nI m + 1 = nI (2 * m + 1) by rw [m2]; exact nI_1 _, show nI (4 * m) + 2 = nI (4 * m + 2) from nI_add _ 2, show nI (6 * m) + 2 = nI (6 * m + 2) from nI_add _ 2, show nI (6 * m) + 3 = nI (6 * m + 3) from nI_add _ 3, show nI (4 * m) + 3 = nI (4 * m + 3) from nI_add _ 3, show nI (8 * m) + 5 = nI (8 * m + 5) from nI_add _ 5, show nI (8 * m) + 4 = nI (8 * m + 4) from nI_add _ 4, show nI (5 * m) + 2 = nI (5 * m + 2) from nI_add _ 2, show nI (7 * m) + 3 = nI (7 * m + 3) from nI_add _ 3, show nI (7 * m) + 4 = nI (7 * m + 4) from nI_add _ 4]
  rw [o_60, if_pos rfl, show f_X4_nest (MM n x w I L Q D) 60 0 (nI (4 * m + 2)) 1 ((2 : Int32) * nI m) = some (MM n x w I1 L Q D) from a1, ob_s, o_60, if_pos rfl, a2, ob_s, o_60, if_pos rfl, a3, ob_s, o_60, if_pos rfl, a4, ob_s, o_60, if_pos rfl, show f_X4_nest (MM n x w I4 L Q D) 60 (nI (4 * m + 3)) (nI (8 * m + 4)) 1 (nI m - 1) = some (MM n x w I5 L Q D) from a5, ob_s, o_60, if_pos rfl, show f_X4_nest (MM n x w I5 L Q D) 60 (nI (5 * m + 2)) (nI (7 * m + 3)) 1 (nI m - 1) = some (MM n x w I6 L Q D) from a6, ob_s, o_60, if_pos rfl, a7, ob_s]
end MADE
