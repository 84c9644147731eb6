/-! what the model has found -/
def FL (c ho pa : Nat) (f : Nat → Nat) : List (List (Nat × Nat)) := if evF c ho pa = true then enuP f c 0 (plM c ho) pa else []
theorem li320 : (320 : Int32) = nI 320 := rfl
section MALL
variable {n : Nat} {w : Int64} {L : Nat → Nat → Int64} {Q : Nat → Nat → Option Nat} {D : Nat → Bool} {a c ho pa : Nat} {f : Nat → Nat}
theorem zer_u1 {I : Nat → Nat → Int32} {b m : Nat} {v : Int32} : s2 (u1 I b (fa_fill (fun _ => v) (I b) m)) b m v = u1 I b (fa_fill (fun _ => v) (I b) (m + 1)) := by
  rw [s2_u1, fa_fill_succ (fun _ => v)]
theorem m_all38 {x I : Nat → Nat → Int32} : ∀ (j u fu : Nat), u + j = 320 → j < fu → f_X7_all_38 fu 64 a (nI u) (MM n x w (u1 I 77 (fa_fill (fun _ => 0) (I 77) u)) L Q D) = f_X7_all_38 (fu - j) 64 a (nI 320) (MM n x w (u1 I 77 (fa_fill (fun _ => 0) (I 77) 320)) L Q D)
  | 0, u, fu, h, hf => by
    obtain rfl : u = 320 := by omega
    rfl
  | j + 1, u, fu, h, hf => by
    obtain ⟨fu, rfl⟩ : ∃ n9, fu = n9 + 1 := ⟨fu - 1, by omega⟩
    rw [f_X7_all_38, li320, if_neg (nI_ge (by omega) (by decide)), r_64_23, ob_s, a_set (len := 320) rfl (Or.inl rfl) (by omega) (by decide), ob_s, zer_u1, nI_1, m_all38 j (u + 1) fu (by omega) (by omega), show fu + 1 - (j + 1) = fu - j by omega, ← li320]
theorem m_all17 {x I : Nat → Nat → Int32} : ∀ (j u fu : Nat), u + j = 18 → j < fu → f_X7_all_17 fu 64 a (nI u) (MM n x w (u1 I 74 (fa_fill (fun _ => 0) (I 74) u)) L Q D) = f_X7_all_38 4096 64 a (0 : Int32) (MM n x w (u1 I 74 (fa_fill (fun _ => 0) (I 74) 18)) L Q D)
  | 0, u, fu, h, hf => by
    obtain ⟨fu, rfl⟩ : ∃ n9, fu = n9 + 1 := ⟨fu - 1, by omega⟩
    obtain rfl : u = 18 := by omega
    rw [f_X7_all_17, if_pos (by decide)]
  | j + 1, u, fu, h, hf => by
    obtain ⟨fu, rfl⟩ : ∃ n9, fu = n9 + 1 := ⟨fu - 1, by omega⟩
    rw [f_X7_all_17, li18, if_neg (nI_ge (by omega) (by decide)), r_64_20, ob_s, a_set (len := 18) rfl (Or.inl rfl) (by omega) (by decide), ob_s, zer_u1, nI_1, m_all17 j (u + 1) fu (by omega) (by omega)]
theorem Rel.start {ho : Nat} (hh : ho < 2 ^ c) : Rel c ho (fun _ => 0) (plM c ho) := by
  intro k
  rw [plM_bit]
  by_cases z : k < c
  · simp [z]
  · rw [Nat.testBit_lt_two_pow (Nat.lt_of_lt_of_le hh (Nat.pow_le_pow_right (by decide) (by omega)))]
    simp [z]
theorem ovr_0 {e : List (Nat × Nat)} : ovr (fun _ => 0) e = rowL e := by
  funext k
  unfold ovr
  rw [if_neg (by simp)]
theorem fld_1 {c e j : Nat} (h : ¬ (e = 64 ∧ (j = 24 ∨ j = 26))) : ∀ (T : List (Nat → Nat)) (s : (Nat → Nat → Int32) × (Nat → Nat → Int32)), (fld c T s).1 e j = s.1 e j
  | [], s => rfl
  | t :: T, s => by
    show (fld c T (stp c t s)).1 e j = _
    rw [fld_1 h T]
    unfold stp
    dsimp only
    rw [s2_at, if_neg (fun z => h ⟨z.1, Or.inl z.2⟩)]
    split
    · rw [s2_at, if_neg (fun z => h ⟨z.1, Or.inr z.2⟩)]
    · rfl
theorem stp_24 {c k : Nat} {t : Nat → Nat} {s : (Nat → Nat → Int32) × (Nat → Nat → Int32)} (h : s.1 64 24 = nI k) : (stp c t s).1 64 24 = nI (k + 1) := by
  unfold stp
  dsimp only
  rw [s2_e, h, nI_1]
theorem fld_24 {c : Nat} : ∀ (T : List (Nat → Nat)) (s : (Nat → Nat → Int32) × (Nat → Nat → Int32)) (k : Nat), s.1 64 24 = nI k → (fld c T s).1 64 24 = nI (k + T.length)
  | [], s, k, h => h
  | t :: T, s, k, h => by
    show (fld c T (stp c t s)).1 64 24 = _
    rw [fld_24 T _ (k + 1) (stp_24 h), List.length_cons]
    congr 1
    omega
def rkL (c : Nat) (A : Nat → Int32) : Nat → List (Nat → Nat) → Int32 → Int32
  | _, [], r => r
  | k, t :: T, r => rkL c A (k + 1) T (if ∀ i, i < c → nI (t i) = A i then nI k else r)
theorem fld_26 {c : Nat} : ∀ (T : List (Nat → Nat)) (s : (Nat → Nat → Int32) × (Nat → Nat → Int32)) (k : Nat), s.1 64 24 = nI k → (fld c T s).1 64 26 = rkL c (s.2 76) k T (s.1 64 26)
  | [], s, k, h => rfl
  | t :: T, s, k, h => by
    show (fld c T (stp c t s)).1 64 26 = _
    rw [fld_26 T _ (k + 1) (stp_24 h), rkL]
    have e1 : (stp c t s).2 76 = s.2 76 := cst_n (by decide) (by decide) c
    have e2 : (stp c t s).1 64 26 = if ∀ i, i < c → nI (t i) = s.2 76 i then nI k else s.1 64 26 := by
      unfold stp
      dsimp only
      rw [s2_at, if_neg (by decide)]
      split
      · rw [s2_e, h]
      · rfl
    rw [e1, e2]
theorem cst_75 {b : Bool} {c : Nat} {t : Nat → Nat} {I : Nat → Nat → Int32} : ∀ (k j : Nat), cst b c t k I 75 j = if b = true ∧ j < k then nI (t j) else I 75 j
  | 0, j => by rw [cst, if_neg (by omega)]
  | k + 1, j => by
    rw [cst, cs2_n (by decide)]
    unfold cs1
    cases b with
    | false =>
      rw [if_neg (by decide), cst_75 k j, if_neg (by simp), if_neg (by simp)]
    | true =>
      rw [if_pos rfl, s2_at, cst_75 k j]
      by_cases z : j = k
      · rw [if_pos ⟨rfl, z⟩, if_pos ⟨rfl, by omega⟩, z]
      · rw [if_neg (fun y => z y.2)]
        by_cases y : j < k
        · rw [if_pos ⟨rfl, y⟩, if_pos ⟨rfl, by omega⟩]
        · rw [if_neg (fun v => y v.2), if_neg (fun v => y (by omega))]
def stC (c : Nat) (t : Nat → Nat) (j : Nat) : Nat := if 0 < t (j % 20) ∧ j % 20 + t (j % 20) < c ∧ t (j % 20 + t (j % 20)) = t (j % 20) ∧ j / 20 = t (j % 20) then 1 else 0
theorem cst_77 {b : Bool} {c : Nat} {t : Nat → Nat} {I : Nat → Nat → Int32} : ∀ (k j : Nat), k ≤ 20 → cst b c t k I 77 j = I 77 j + nI (if j % 20 < k then stC c t j else 0)
  | 0, j, _ => by rw [cst, if_neg (by omega), nI_0, Int32.add_zero]
  | k + 1, j, hk => by
    rw [cst]
    unfold cs2
    have ih := cst_77 (b := b) (c := c) (t := t) (I := I) k j (by omega)
    have e1 : ∀ i, cs1 b k t (cst b c t k I) 77 i = cst b c t k I 77 i := fun i => by rw [cs1_n (by decide)]
    by_cases hs : 0 < t k ∧ k + t k < c ∧ t (k + t k) = t k
    · rw [if_pos hs, s2_at]
      by_cases hj : j = 20 * t k + k
      · have hm : j % 20 = k := by omega
        have hd : j / 20 = t k := by omega
        rw [if_pos ⟨rfl, hj⟩, ← hj, e1, ih, hm, if_neg (by omega), if_pos (by omega), nI_0, Int32.add_zero]
        unfold stC
        rw [hm, if_pos ⟨hs.1, hs.2.1, hs.2.2, hd⟩]
        rfl
      · rw [if_neg (fun z => hj z.2), e1, ih]
        by_cases hm : j % 20 < k
        · rw [if_pos hm, if_pos (by omega)]
        · rw [if_neg hm]
          by_cases hm2 : j % 20 = k
          · have : stC c t j = 0 := by
              unfold stC
              rw [if_neg]
              rw [hm2]
              intro z
              omega
            rw [this, if_pos (by omega)]
          · rw [if_neg (by omega)]
    · rw [if_neg hs, e1, ih]
      by_cases hm : j % 20 < k
      · rw [if_pos hm, if_pos (by omega)]
      · rw [if_neg hm]
        by_cases hm2 : j % 20 = k
        · have : stC c t j = 0 := by
            unfold stC
            rw [if_neg]
            rw [hm2]
            intro z
            exact hs ⟨z.1, z.2.1, z.2.2.1⟩
          rw [this, if_pos (by omega)]
        · rw [if_neg (by omega)]
def stN (c : Nat) : List (Nat → Nat) → Nat → Nat
  | [], _ => 0
  | t :: T, j => stC c t j + stN c T j
theorem stC_0 {c j : Nat} {t : Nat → Nat} (h : c ≤ j % 20) : stC c t j = 0 := by
  unfold stC
  rw [if_neg (by omega)]
theorem fld_77 {c j : Nat} (hc : c ≤ 18) : ∀ (T : List (Nat → Nat)) (s : (Nat → Nat → Int32) × (Nat → Nat → Int32)), (fld c T s).2 77 j = s.2 77 j + nI (stN c T j)
  | [], s => by show s.2 77 j = _ + nI 0; rw [nI_0, Int32.add_zero]
  | t :: T, s => by
    show (fld c T (stp c t s)).2 77 j = _
    rw [fld_77 hc T]
    have e : (stp c t s).2 77 j = s.2 77 j + nI (stC c t j) := by
      unfold stp
      show cst _ c t c s.2 77 j = _
      rw [cst_77 c j (by omega)]
      split
      · rfl
      · rw [stC_0 (by omega)]
    rw [e, stN, Int32.add_assoc, nI_add]
theorem fld_75 {c r j : Nat} (hj : j < c) (hr : r < 2 ^ 30) : ∀ (T : List (Nat → Nat)) (s : (Nat → Nat → Int32) × (Nat → Nat → Int32)) (k : Nat), s.1 64 24 = nI k → s.1 64 25 = nI r → k + T.length < 2 ^ 30 → ((r < k ∨ k + T.length ≤ r) → (fld c T s).2 75 j = s.2 75 j) ∧ (∀ i (h : i < T.length), k + i = r → (fld c T s).2 75 j = nI (T[i] j))
  | [], s, k, h1, h2, h3 => ⟨fun _ => rfl, fun i h => absurd h (Nat.not_lt_zero i)⟩
  | t :: T, s, k, h1, h2, h3 => by
    rw [List.length_cons] at h3
    have e1 : (stp c t s).1 64 24 = nI (k + 1) := stp_24 h1
    have e2 : (stp c t s).1 64 25 = nI r := by
      unfold stp
      dsimp only
      rw [s2_at, if_neg (by decide), ← h2]
      split
      · rw [s2_at, if_neg (by decide)]
      · rfl
    have ih := fld_75 hj hr T (stp c t s) (k + 1) e1 e2 (by omega)
    have e3 : (stp c t s).2 75 j = if k = r then nI (t j) else s.2 75 j := by
      unfold stp
      show cst _ c t c s.2 75 j = _
      rw [cst_75, h1, h2]
      by_cases z : k = r
      · rw [if_pos ⟨by rw [z]; exact decide_eq_true rfl, hj⟩, if_pos z]
      · rw [if_neg (fun y => z ((nI_eq (by omega) (by omega)).mp (of_decide_eq_true y.1))), if_neg z]
    refine ⟨fun h => ?_, fun i hi hk => ?_⟩
    · rw [List.length_cons] at h
      show (fld c T (stp c t s)).2 75 j = _
      rw [ih.1 (by omega), e3, if_neg (by omega)]
    · show (fld c T (stp c t s)).2 75 j = _
      cases i with
      | zero =>
        rw [ih.1 (by omega), e3, if_pos (by omega)]
        rfl
      | succ i =>
        rw [ih.2 i (by rw [List.length_cons] at hi; omega) (by omega)]
        rfl
theorem m_all {x I : Nat → Nat → Int32} {W : Int32} (ha : aM a) (hF : FrM0 I a c ho pa f) (hw : WF c ho pa f) : ∃ I0, (∀ e j, I0 e j = if e = 74 ∧ j < 18 then 0 else if e = 77 ∧ j < 320 then 0 else I e j) ∧
    f_X7_all (MM n x w I L Q D) 64 a W = some (nI (FL c ho pa f).length, MM n (fld c ((FL c ho pa f).map rowL) (s2 (s2 (s2 x 64 24 0) 64 25 W) 64 26 NO, I0)).1 w (u1 (fld c ((FL c ho pa f).map rowL) (s2 (s2 (s2 x 64 24 0) 64 25 W) 64 26 NO, I0)).2 74 (I0 74)) L Q D) := by
  have h74 : a ≠ 74 := by rcases ha with rfl | rfl <;> decide
  have h75 : a ≠ 75 := by rcases ha with rfl | rfl <;> decide
  have h77 : a ≠ 77 := by rcases ha with rfl | rfl <;> decide
  have z0 : (0 : Int32) = nI 0 := rfl
  let I1 := u1 I 74 (fa_fill (fun _ => (0 : Int32)) (I 74) 18)
  let I0 := u1 I1 77 (fa_fill (fun _ => (0 : Int32)) (I1 77) 320)
  have hI0 : ∀ e j, I0 e j = if e = 74 ∧ j < 18 then 0 else if e = 77 ∧ j < 320 then 0 else I e j := fun e j => by
    show u1 I1 77 _ e j = _
    by_cases h1 : e = 77
    · subst h1
      rw [u1_e, if_neg (by omega)]
      by_cases hj : j < 320
      · rw [fa_fill_in hj, if_pos ⟨rfl, hj⟩]
      · rw [fa_fill_out (by omega), if_neg (fun z => hj z.2)]
        show u1 I 74 _ 77 j = _
        rw [u1_n (by decide)]
    · rw [u1_n h1, if_neg (c := e = 77 ∧ j < 320) (fun z => h1 z.1)]
      show u1 I 74 _ e j = _
      by_cases h2 : e = 74
      · subst h2
        rw [u1_e]
        by_cases hj : j < 18
        · rw [fa_fill_in hj, if_pos ⟨rfl, hj⟩]
        · rw [fa_fill_out (by omega), if_neg (fun z => hj z.2)]
      · rw [u1_n h2, if_neg (fun z => h2 z.1)]
  have hsame : u1 I0 74 (I0 74) = I0 := u1_same
  have hF0 : FrM0 I0 a c ho pa f := by
    refine hF.cong (funext fun j => ?_)
    rw [hI0, if_neg (fun z => h74 z.1), if_neg (fun z => h77 z.1)]
  refine ⟨I0, hI0, ?_⟩
  unfold f_X7_all
  rw [p_64_24, ob_s, p_64_25, ob_s, liN, p_64_26, ob_s]
  have e17 := m_all17 (a := a) (n := n) (w := w) (L := L) (Q := Q) (D := D) (x := s2 (s2 (s2 x 64 24 0) 64 25 W) 64 26 NO) (I := I) 18 0 4096 (by omega) (by omega)
  rw [fa_fill_0, u1_same] at e17
  have e38 := m_all38 (a := a) (n := n) (w := w) (L := L) (Q := Q) (D := D) (x := s2 (s2 (s2 x 64 24 0) 64 25 W) 64 26 NO) (I := I1) 320 0 4096 (by omega) (by omega)
  rw [fa_fill_0, u1_same] at e38
  show f_X7_all_17 4096 64 a (nI 0) _ = _
  rw [e17]
  show f_X7_all_38 4096 64 a (nI 0) (MM n _ w I1 L Q D) = _
  rw [e38]
  show f_X7_all_38 (3775 + 1) 64 a (nI 320) (MM n _ w I0 L Q D) = _
  rw [f_X7_all_38, if_pos (by decide), o_64, if_pos rfl, m_isEven ha.s hF0 hw, ob_s]
  have h24 : (s2 (s2 (s2 x 64 24 0) 64 25 W) 64 26 NO) 64 24 = nI 0 := by
    rw [s2_at, if_neg (by decide), s2_at, if_neg (by decide), s2_e]; rfl
  by_cases hev : evF c ho pa = true
  · have hfl : FL c ho pa f = enuP f c 0 (plM c ho) pa := if_pos hev
    rw [if_pos hev, if_neg (by decide), show (2 : Int32) = nI 2 from rfl, m_at ha.s (by decide), ob_s, hF0.2.2.1]
    have := m_fillN (n := n) (w := w) (L := L) (Q := Q) (D := D) (pa := pa) ha hw.1 hw.ho18 (fun d hd => by rcases hw.f18 hd with z | z <;> omega) 19 0 (plM c ho) pa (fun _ => 0) (I0 74) (s2 (s2 (s2 x 64 24 0) 64 25 W) 64 26 NO) I0 (by omega) (by have := hw.1; omega) hw.2.2.1 (Rel.start hw.2.1) (fun j hj => by rw [hI0, if_pos ⟨rfl, hj⟩]; rfl) (fun _ => Nat.zero_le _) hF0
    rw [Nat.sub_zero, show (ovr (fun _ => 0)) = rowL from funext fun e => ovr_0] at this
    rw [hsame] at this
    rw [if_pos rfl]
    show (f_X7_fills 20 _ 64 a (nI (0 + 1)) (nI pa)).bind _ = _
    rw [this, ob_s, g_64_24, ob_s, fld_24 _ _ 0 h24, List.length_map, Nat.zero_add, hfl]
  · have hfl : FL c ho pa f = [] := if_neg hev
    rw [if_neg hev, if_pos rfl, g_64_24, ob_s, h24, hfl]
    show some (nI 0, MM n _ w I0 L Q D) = some (nI 0, MM n _ w (u1 I0 74 (I0 74)) L Q D)
    rw [hsame]
    rfl
end MALL
