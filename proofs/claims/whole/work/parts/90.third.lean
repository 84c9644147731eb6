/-! third: what a triple is -/
def hitT (x y N d o b : Nat) : Prop := (b = x ∨ (b + d) % N = x ∨ (b + o) % N = x) ∧ (b = y ∨ (b + d) % N = y ∨ (b + o) % N = y)
theorem md {a N : Nat} (h : a < 2 * N) : a % N = if a < N then a else a - N := by
  by_cases z : a < N
  · rw [if_pos z, Nat.mod_eq_of_lt z]
  · rw [if_neg z, Nat.mod_eq_sub_mod (by omega), Nat.mod_eq_of_lt (by omega)]
theorem md_c {a N : Nat} (h : a < 2 * N) : (a < N ∧ a % N = a) ∨ (N ≤ a ∧ a % N = a - N) := by
  rw [md h]
  by_cases z : a < N
  · exact Or.inl ⟨z, if_pos z⟩
  · exact Or.inr ⟨by omega, if_neg z⟩
theorem hit_val {x y N d o b s : Nat} (hx : x < N) (hy : y < N) (hb : b < N) (hne : x ≠ y) (hd : 1 ≤ d) (hdo : d < o) (ho : o < N) (hs : s = (y + N - x) % N) (h : hitT x y N d o b) :
    (s = d ∧ b + (b + d) % N + (b + o) % N = (x + o) % N + x + y) ∨ (s = o ∧ b + (b + d) % N + (b + o) % N = (x + d) % N + x + y) ∨ (s + d = o ∧ b + (b + d) % N + (b + o) % N = (x + N - d) % N + x + y) ∨
    (N - s = d ∧ b + (b + d) % N + (b + o) % N = (y + o) % N + x + y) ∨ (N - s = o ∧ b + (b + d) % N + (b + o) % N = (y + d) % N + x + y) ∨ (N - s + d = o ∧ b + (b + d) % N + (b + o) % N = (y + N - d) % N + x + y) := by
  have e3 := md_c (a := y + N - x) (N := N) (by omega)
  rw [← hs] at e3
  obtain ⟨h1, h2⟩ := h
  rcases h1 with h1 | h1 | h1 <;> rcases h2 with h2 | h2 | h2
  · exact absurd (h1.symm.trans h2) hne
  · left
    subst h1
    have e1 := md_c (a := b + d) (N := N) (by omega)
    rw [h2] at e1 ⊢
    omega
  · right; left
    subst h1
    have e1 := md_c (a := b + o) (N := N) (by omega)
    rw [h2] at e1 ⊢
    omega
  · right; right; right; left
    subst h2
    have e1 := md_c (a := b + d) (N := N) (by omega)
    rw [h1] at e1 ⊢
    omega
  · exact absurd (h1.symm.trans h2) hne
  · right; right; left
    have e1 := md_c (a := b + d) (N := N) (by omega)
    have e2 := md_c (a := b + o) (N := N) (by omega)
    have e6 := md_c (a := x + N - d) (N := N) (by omega)
    rw [h1] at e1 ⊢
    rw [h2] at e2 ⊢
    generalize (x + N - d) % N = f6 at *
    omega
  · right; right; right; right; left
    subst h2
    have e1 := md_c (a := b + o) (N := N) (by omega)
    rw [h1] at e1 ⊢
    omega
  · right; right; right; right; right
    have e1 := md_c (a := b + d) (N := N) (by omega)
    have e2 := md_c (a := b + o) (N := N) (by omega)
    have e6 := md_c (a := y + N - d) (N := N) (by omega)
    rw [h1] at e2 ⊢
    rw [h2] at e1 ⊢
    generalize (y + N - d) % N = f6 at *
    omega
  · exact absurd (h1.symm.trans h2) hne
/-- the other way round: where the step is one of the three, there is a triple -/
theorem hit_1 {x y N d o : Nat} (hx : x < N) (hy : y < N) (hd : 1 ≤ d) (hdo : d < o) (ho : o < N) (h : (y + N - x) % N = d) : hitT x y N d o x := by
  have e3 := md_c (a := y + N - x) (N := N) (by omega)
  have e5 := md_c (a := x + d) (N := N) (by omega)
  exact ⟨Or.inl rfl, Or.inr (Or.inl (by omega))⟩
theorem hit_2 {x y N d o : Nat} (hx : x < N) (hy : y < N) (hd : 1 ≤ d) (hdo : d < o) (ho : o < N) (h : (y + N - x) % N = o) : hitT x y N d o x := by
  have e3 := md_c (a := y + N - x) (N := N) (by omega)
  have e5 := md_c (a := x + o) (N := N) (by omega)
  exact ⟨Or.inl rfl, Or.inr (Or.inr (by omega))⟩
theorem hit_3 {x y N d o : Nat} (hx : x < N) (hy : y < N) (hd : 1 ≤ d) (hdo : d < o) (ho : o < N) (h : (y + N - x) % N + d = o) : hitT x y N d o ((x + N - d) % N) := by
  have e3 := md_c (a := y + N - x) (N := N) (by omega)
  have e6 := md_c (a := x + N - d) (N := N) (by omega)
  generalize (x + N - d) % N = b at *
  have e1 := md_c (a := b + d) (N := N) (by omega)
  have e2 := md_c (a := b + o) (N := N) (by omega)
  exact ⟨Or.inr (Or.inl (by omega)), Or.inr (Or.inr (by omega))⟩
theorem hitT.sw {x y N d o b : Nat} (h : hitT x y N d o b) : hitT y x N d o b := ⟨h.2, h.1⟩
theorem step_sw {x y N : Nat} (hx : x < N) (hy : y < N) (hne : x ≠ y) : (x + N - y) % N = N - (y + N - x) % N := by
  have e1 := md_c (a := y + N - x) (N := N) (by omega)
  have e2 := md_c (a := x + N - y) (N := N) (by omega)
  omega
/-- the first places of 1 to n: what makes a ring -/
def Ring (n : Nat) (l : Nat → Nat) : Prop := (∀ d, 1 ≤ d → d ≤ n → 1 ≤ l d ∧ l d + d ≤ 2 * n + 1) ∧ (∀ d e, 1 ≤ d → d ≤ n → 1 ≤ e → e ≤ n → d ≠ e → l d ≠ l e ∧ l d ≠ l e + e ∧ l d + d ≠ l e + e) ∧ ((∀ d, 1 ≤ d → d ≤ n → l d + d ≤ 2 * n) ∨ ∀ d, 1 ≤ d → d ≤ n → l d ≠ 2 * n ∧ l d + d ≠ 2 * n)
/-- how the step from x to y is one of a distance's three: which -/
def mT (n : Nat) (l : Nat → Nat) (s d : Nat) : Prop := s = d ∨ s = n + l d + d ∨ s = n + l d
def vT (n : Nat) (l : Nat → Nat) (x s d : Nat) : Nat := if s = d then (x + (n + l d + d)) % (6 * n + 1) else if s = n + l d + d then (x + d) % (6 * n + 1) else (x + (6 * n + 1) - d) % (6 * n + 1)
theorem ring_one {n s d e : Nat} {l : Nat → Nat} (h : Ring n l) (hd : 1 ≤ d) (hd2 : d ≤ n) (he : 1 ≤ e) (he2 : e ≤ n) (a : mT n l s d) (b : mT n l s e) : d = e := by
  by_cases z : d = e
  · exact z
  · have h1 := h.1 d hd hd2
    have h2 := h.1 e he he2
    have h3 := h.2.1 d e hd hd2 he he2 z
    have h4 := h.2.1 e d he he2 hd hd2 (fun y => z y.symm)
    unfold mT at a b
    omega
theorem ring_no {n s d e : Nat} {l : Nat → Nat} (h : Ring n l) (hs : s < 6 * n + 1) (hd : 1 ≤ d) (hd2 : d ≤ n) (he : 1 ≤ e) (he2 : e ≤ n) (a : mT n l s d) (b : mT n l (6 * n + 1 - s) e) : False := by
  have h1 := h.1 d hd hd2
  have h2 := h.1 e he he2
  unfold mT at a b
  rcases h.2.2 with h5 | h5
  · have a5 := h5 d hd hd2
    have b5 := h5 e he he2
    omega
  · have a5 := h5 d hd hd2
    have b5 := h5 e he he2
    omega
theorem ring_hits {n x y d e b : Nat} {l : Nat → Nat} (h : Ring n l) (hx : x < 6 * n + 1) (hy : y < 6 * n + 1) (hne : x ≠ y) (hd : 1 ≤ d) (hd2 : d ≤ n) (he : 1 ≤ e) (he2 : e ≤ n) (hb : b < 6 * n + 1) (a : mT n l ((y + (6 * n + 1) - x) % (6 * n + 1)) d) (k : hitT x y (6 * n + 1) e (n + l e + e) b) : b + (b + e) % (6 * n + 1) + (b + (n + l e + e)) % (6 * n + 1) = vT n l x ((y + (6 * n + 1) - x) % (6 * n + 1)) d + x + y := by
  have h2 := h.1 e he he2
  have hs : (y + (6 * n + 1) - x) % (6 * n + 1) < 6 * n + 1 := Nat.mod_lt _ (by omega)
  have hv := hit_val (s := (y + (6 * n + 1) - x) % (6 * n + 1)) hx hy hb hne he (by omega) (by omega) rfl k
  generalize (y + (6 * n + 1) - x) % (6 * n + 1) = s at *
  rcases hv with ⟨v1, v2⟩ | ⟨v1, v2⟩ | ⟨v1, v2⟩ | ⟨v1, v2⟩ | ⟨v1, v2⟩ | ⟨v1, v2⟩
  · have : d = e := ring_one h hd hd2 he he2 a (Or.inl v1)
    subst this
    unfold vT
    rw [if_pos v1, v2]
  · have : d = e := ring_one h hd hd2 he he2 a (Or.inr (Or.inl v1))
    subst this
    unfold vT
    rw [if_neg (by omega), if_pos v1, v2]
  · have : d = e := ring_one h hd hd2 he he2 a (Or.inr (Or.inr (by omega)))
    subst this
    unfold vT
    rw [if_neg (by omega), if_neg (by omega), v2]
  · exact (ring_no h hs hd hd2 he he2 a (Or.inl v1)).elim
  · exact (ring_no h hs hd hd2 he he2 a (Or.inr (Or.inl v1))).elim
  · exact (ring_no h hs hd hd2 he he2 a (Or.inr (Or.inr (by omega)))).elim
theorem ring_hit {n x y d : Nat} {l : Nat → Nat} (h : Ring n l) (hx : x < 6 * n + 1) (hy : y < 6 * n + 1) (hd : 1 ≤ d) (hd2 : d ≤ n) (a : mT n l ((y + (6 * n + 1) - x) % (6 * n + 1)) d) : ∃ b, b < 6 * n + 1 ∧ hitT x y (6 * n + 1) d (n + l d + d) b := by
  have h2 := h.1 d hd hd2
  rcases a with a | a | a
  · exact ⟨x, hx, hit_1 hx hy hd (by omega) (by omega) a⟩
  · exact ⟨x, hx, hit_2 hx hy hd (by omega) (by omega) a⟩
  · exact ⟨_, Nat.mod_lt _ (by omega), hit_3 hx hy hd (by omega) (by omega) (by omega)⟩
theorem no_hit {n x y e b : Nat} {l : Nat → Nat} (h : Ring n l) (hx : x < 6 * n + 1) (hy : y < 6 * n + 1) (hne : x ≠ y) (he : 1 ≤ e) (he2 : e ≤ n) (hb : b < 6 * n + 1) (k : hitT x y (6 * n + 1) e (n + l e + e) b) : mT n l ((y + (6 * n + 1) - x) % (6 * n + 1)) e ∨ mT n l ((x + (6 * n + 1) - y) % (6 * n + 1)) e := by
  have h2 := h.1 e he he2
  have hv := hit_val (s := (y + (6 * n + 1) - x) % (6 * n + 1)) hx hy hb hne he (by omega) (by omega) rfl k
  rw [step_sw hx hy hne]
  unfold mT
  omega
/-! the order of a row -/
def tkN (r : Nat → Nat) (u : Nat) : Nat := fb_ct (fun j => decide (r j ≠ 0)) u
def laN (r : Nat → Nat) : Nat → Nat
  | 0 => 0
  | u + 1 => if r u ≠ 0 then u + 1 else laN r u
def mxN (r : Nat → Nat) : Nat → Nat
  | 0 => 0
  | u + 1 => if r u ≠ 0 then (if mxN r u < r u then r u else mxN r u) else mxN r u
theorem laN_le {r : Nat → Nat} : ∀ u, laN r u ≤ u
  | 0 => Nat.le_refl _
  | u + 1 => by
    have := laN_le (r := r) u
    rw [laN]
    split <;> omega
theorem laN_out {r : Nat → Nat} : ∀ u j, laN r u ≤ j → j < u → r j = 0
  | 0, j, _, h => by omega
  | u + 1, j, h1, h2 => by
    rw [laN] at h1
    by_cases z : r u ≠ 0
    · rw [if_pos z] at h1; omega
    · rw [if_neg z] at h1
      by_cases y : j = u
      · rw [y]; omega
      · exact laN_out u j h1 (by omega)
theorem laN_pos {r : Nat → Nat} : ∀ u, laN r u ≠ 0 → 0 < tkN r u
  | 0, h => absurd rfl h
  | u + 1, h => by
    unfold tkN
    rw [fb_ct_succ]
    rw [laN] at h
    by_cases z : r u ≠ 0
    · rw [if_pos (by simpa using z)]; omega
    · rw [if_neg z] at h
      have := laN_pos u h
      unfold tkN at this
      omega
theorem mxN_ge {r : Nat → Nat} : ∀ u j, j < u → r j ≤ mxN r u
  | 0, j, h => by omega
  | u + 1, j, h => by
    rw [mxN]
    by_cases y : j = u
    · subst y
      by_cases z : r j ≠ 0
      · rw [if_pos z]; split <;> omega
      · omega
    · have := mxN_ge (r := r) u j (by omega)
      split
      · split <;> omega
      · exact this
theorem mxN_at {r : Nat → Nat} : ∀ u, mxN r u ≠ 0 → ∃ j, j < u ∧ r j = mxN r u
  | 0, h => absurd rfl h
  | u + 1, h => by
    rw [mxN] at h ⊢
    by_cases z : r u ≠ 0
    · rw [if_pos z] at h ⊢
      by_cases y : mxN r u < r u
      · rw [if_pos y] at h ⊢
        exact ⟨u, by omega, rfl⟩
      · rw [if_neg y] at h ⊢
        obtain ⟨j, a, b⟩ := mxN_at u h
        exact ⟨j, by omega, b⟩
    · rw [if_neg z] at h ⊢
      obtain ⟨j, a, b⟩ := mxN_at u h
      exact ⟨j, by omega, b⟩
def prN (r : Nat → Nat) (K i : Nat) : Bool := !(fst1 r (i + 1) K == 0)
theorem prN_iff {r : Nat → Nat} {K i : Nat} : prN r K i = true ↔ ∃ j, j < K ∧ r j = i + 1 := by
  unfold prN
  rw [Bool.not_eq_true', beq_eq_false_iff_ne]
  constructor
  · intro h
    exact Classical.byContradiction fun z => h ((fst1_0 K).mpr fun j hj e => z ⟨j, hj, e⟩)
  · rintro ⟨j, hj, e⟩ z
    exact (fst1_0 K).mp z j hj e
theorem ct_sumK (p : Nat → Bool) : ∀ n, fb_ct p n = sumK (fun j => if p j = true then 1 else 0) n
  | 0 => rfl
  | n + 1 => by
    rw [fb_ct_succ, sumK, ct_sumK p n]
theorem sumK_two {g : Nat → Nat} {a b : Nat} (hab : a < b) : ∀ c, b < c → (∀ k, k < c → k ≠ a → k ≠ b → g k = 0) → sumK g c = g a + g b
  | 0, h, _ => by omega
  | c + 1, h, hz => by
    rw [sumK]
    by_cases z : b = c
    · subst z
      rw [sumK_one (k0 := a) b (fun k hk hne => hz k (by omega) hne (by omega)), if_pos hab]
    · rw [sumK_two hab c (by omega) (fun k hk => hz k (by omega)), hz c (by omega) (by omega) (fun y => z y.symm)]
      rfl
theorem tk_two {r : Nat → Nat} {K : Nat} (hr : ∀ j, j < K → r j ≤ 60) (ht : twin r K) : tkN r K = 2 * fb_ct (prN r K) 60 := by
  have h1 : tkN r K = sumK (fun j => sumK (fun i => if r j = i + 1 then 1 else 0) 60) K := by
    unfold tkN
    rw [ct_sumK]
    refine Nat.le_antisymm (sumK_le K fun j hj => ?_) (sumK_le K fun j hj => ?_)
    all_goals
      have hle := hr j hj
      by_cases z : r j = 0
      · rw [if_neg (by simp [z])]
        have : (fun i => if r j = i + 1 then 1 else 0) = fun _ => 0 := funext fun i => if_neg (by omega)
        rw [this, sumK_0]
        exact Nat.le_refl _
      · rw [if_pos (by simpa using z), sumK_one (k0 := r j - 1) 60 (fun k hk hne => if_neg (by omega)), if_pos (by omega), if_pos (by omega)]
        exact Nat.le_refl _
  have h2 : ∀ i, sumK (fun j => if r j = i + 1 then 1 else 0) K = 2 * (if prN r K i = true then 1 else 0) := fun i => by
    by_cases z : prN r K i = true
    · rw [if_pos z]
      obtain ⟨j, hj, e⟩ := prN_iff.mp z
      obtain ⟨p, p1, p2, p3, p4⟩ := ht (i + 1) (by omega) ⟨j, hj, e⟩
      rw [sumK_two (a := p) (b := p + (i + 1)) (by omega) K p1 (fun k hk k1 k2 => if_neg fun y => by have := p4 k hk y; omega), if_pos p2, if_pos p3]
    · rw [if_neg z]
      have : ∀ k, k < K → (if r k = i + 1 then 1 else 0) = 0 := fun k hk => if_neg fun y => z (prN_iff.mpr ⟨k, hk, y⟩)
      have h3 : sumK (fun j => if r j = i + 1 then 1 else 0) K ≤ sumK (fun _ => 0) K := sumK_le K fun k hk => by
        show (if r k = i + 1 then 1 else 0) ≤ 0
        rw [this k hk]
        exact Nat.le_refl _
      rw [sumK_0] at h3
      omega
  rw [h1, sumK_comm, ct_sumK]
  have : ∀ n, sumK (fun i => sumK (fun j => if r j = i + 1 then 1 else 0) K) n = 2 * sumK (fun i => if prN r K i = true then 1 else 0) n := fun n => by
    induction n with
    | zero => rfl
    | succ n ih => rw [sumK, sumK, ih, h2]; omega
  exact this 60
/-- all of 1 to the longest stand there -/
theorem all_iff {r : Nat → Nat} {K : Nat} (hr : ∀ j, j < K → r j ≤ 60) (ht : twin r K) : (tkN r K = 2 * mxN r K ↔ ∀ d, 1 ≤ d → d ≤ mxN r K → fst1 r d K ≠ 0) ∧ ((∀ d, 1 ≤ d → d ≤ tkN r K / 2 → fst1 r d K ≠ 0) ↔ ∀ d, 1 ≤ d → d ≤ mxN r K → fst1 r d K ≠ 0) ∧ mxN r K ≤ 60 := by
  have htk := tk_two hr ht
  have hmx : mxN r K ≤ 60 := by
    by_cases z : mxN r K = 0
    · omega
    · obtain ⟨j, a, b⟩ := mxN_at K z
      have := hr j a
      omega
  have hcut : fb_ct (prN r K) 60 = fb_ct (prN r K) (mxN r K) := by
    rw [show 60 = mxN r K + (60 - mxN r K) by omega, fb_ct_split]
    have : fb_ct (fun k => prN r K (mxN r K + k)) (60 - mxN r K) = 0 := fb_ct_zero.mpr fun k hk => by
      cases q : prN r K (mxN r K + k) with
      | false => rfl
      | true =>
        obtain ⟨j, a, b⟩ := prN_iff.mp q
        have := mxN_ge K j a (r := r)
        omega
    rw [this]
    rfl
  have hpr : ∀ n, (∀ k, k < n → prN r K k = true) ↔ ∀ d, 1 ≤ d → d ≤ n → fst1 r d K ≠ 0 := fun n => by
    constructor
    · intro h d d1 d2
      have := h (d - 1) (by omega)
      unfold prN at this
      rw [Bool.not_eq_true', beq_eq_false_iff_ne, show d - 1 + 1 = d by omega] at this
      exact this
    · intro h k hk
      have := h (k + 1) (by omega) (by omega)
      unfold prN
      rw [Bool.not_eq_true', beq_eq_false_iff_ne]
      exact this
  have hle := fb_ct_le (prN r K) (mxN r K)
  have h1 : tkN r K = 2 * mxN r K ↔ ∀ d, 1 ≤ d → d ≤ mxN r K → fst1 r d K ≠ 0 := by
    rw [← hpr, ← fb_ct_all, htk, hcut]
    omega
  refine ⟨h1, ?_, hmx⟩
  rw [htk, Nat.mul_div_cancel_left _ (by decide), ← hpr, ← hpr, ← fb_ct_all, ← fb_ct_all]
  constructor
  · intro h
    rw [hcut] at h
    by_cases z : fb_ct (prN r K) (mxN r K) = mxN r K
    · exact z
    · -- the longest stands beyond
      have hm0 : mxN r K ≠ 0 := by omega
      obtain ⟨j, a, b⟩ := mxN_at K hm0
      have hlast : prN r K (mxN r K - 1) = true := prN_iff.mpr ⟨j, a, by omega⟩
      have hs := fb_ct_split (prN r K) (fb_ct (prN r K) (mxN r K)) (mxN r K - fb_ct (prN r K) (mxN r K))
      rw [show fb_ct (prN r K) (mxN r K) + (mxN r K - fb_ct (prN r K) (mxN r K)) = mxN r K by omega, h] at hs
      have hz : fb_ct (fun k => prN r K (fb_ct (prN r K) (mxN r K) + k)) (mxN r K - fb_ct (prN r K) (mxN r K)) = 0 := by omega
      have := fb_ct_zero.mp hz (mxN r K - 1 - fb_ct (prN r K) (mxN r K)) (by omega)
      rw [show fb_ct (prN r K) (mxN r K) + (mxN r K - 1 - fb_ct (prN r K) (mxN r K)) = mxN r K - 1 by omega, hlast] at this
      cases this
  · intro h
    rw [hcut, h]
    exact h
