/-! what is kept of acts: the ring, the images -/
section QQ
variable {n : Nat} {x : Nat → Nat → Int32} {w : Int64} {I : Nat → Nat → Int32} {L : Nat → Nat → Int64} {Q : Nat → Nat → Option Nat} {D : Nat → Bool}
theorem q_at {a len i : Nat} (hs : shp[a]? = some (4, len)) (hi : i < len) (hl : len < 2 ^ 31) : aQ (MM n x w I L Q D) 4 a (nI i) = some (Q a i) := by
  have hc : ((MM n x w I L Q D)).2 a = some (.inl (4, len, .inr (.inr (.inr (.inr (Q a)))))) := by
    show cel a _ _ _ _ _ _ _ = _
    unfold cel
    rw [hs]
    rfl
  unfold aQ
  rw [hc]
  show (if 4 = 4 ∧ _ then _ else _) = _
  rw [if_pos ⟨rfl, vp_in_nI hi hl⟩, nI_clamp (by omega)]
theorem q_ref {a len i b : Nat} (hs : shp[a]? = some (4, len)) (hi : i < len) (hl : len < 2 ^ 31) (e : Q a i = some b) : aR (MM n x w I L Q D) 4 a (nI i) = some b := by
  unfold aR
  rw [q_at hs hi hl, Option.bind_some, e]
theorem q_set {a len i v : Nat} (hs : shp[a]? = some (4, len)) (hi : i < len) (hl : len < 2 ^ 31) (hv : isF D v) : sQ (MM n x w I L Q D) a (nI i) v = some (MM n x w I L (u1 Q a (va_up (Q a) i (some v))) D) := by
  have hc : ((MM n x w I L Q D)).2 a = some (.inl (4, len, .inr (.inr (.inr (.inr (Q a)))))) := by
    show cel a _ _ _ _ _ _ _ = _
    unfold cel
    rw [hs]
    rfl
  unfold sQ
  rw [hc, show ((MM n x w I L Q D)).2 v = _ from f_c hv]
  show (if (4 = 4 ∧ 2 = 2) ∧ _ then _ else _) = _
  rw [if_pos ⟨⟨rfl, rfl⟩, vp_in_nI hi hl⟩, nI_clamp (by omega)]
  refine congrArg some (hs_Q ?_)
  unfold cel
  rw [hs]
  rfl
end QQ
/-- the frames ahead of the acts, with one more (the oldest gives way) -/
def addU (s : Nat) (U : Nat → Fm) (G : Fm) : Nat → Fm := fun k => if s < 8 then (if k < s then U k else G) else (if k < 7 then U (k + 1) else G)
def addN (s : Nat) : Nat := if s < 8 then s + 1 else 8
def HC (n : Nat) (x I : Nat → Nat → Int32) (Q : Nat → Nat → Option Nat) (D : Nat → Bool) (s : Nat) (U : Nat → Fm) : Prop := DOK n D ∧ PQ Q D ∧ s ≤ 8 ∧ x 10 2 = nI s ∧ ∃ t, t < 8 ∧ x 10 1 = nI t ∧ ∀ k, k < s → WFf (U k) ∧ ∃ a, Q 11 ((t + 9 + k - s) % 8) = some a ∧ FrF x I a (U k)
theorem isD.ne {D : Nat → Bool} {a k : Nat} (h : isD D a) (hk : k < 81) : a ≠ k := by have := h.1; omega
/-- a frame made later goes on -/
theorem isD.more {n : Nat} {D : Nat → Bool} {a : Nat} (hD : DOK n D) (h : isD D a) : isD (fun k => decide (k = n) || D k) a := by
  have := (hD.2 a h.2.1).2
  refine ⟨h.1, by simp [h.2.1], ?_⟩
  show (decide (a + 1 = n) || D (a + 1)) = false
  rw [h.2.2]
  simp
  omega
theorem slot_new {t s k : Nat} (ht : t < 8) (hs : s ≤ 8) (hk : k < addN s) (h : k + 1 < addN s) : ((t + 1) % 8 + 9 + k - addN s) % 8 ≠ (t + 1) % 8 := by
  unfold addN at *
  split at hk <;> rename_i q <;> simp only [q, if_true, if_false] at h ⊢ <;> omega
theorem slot_old {t s k : Nat} (ht : t < 8) (hs : s ≤ 8) (h : k + 1 < addN s) : ((t + 1) % 8 + 9 + k - addN s) % 8 = (t + 9 + (if s < 8 then k else k + 1) - s) % 8 := by
  unfold addN at *
  by_cases q : s < 8
  · simp only [q, if_true] at h ⊢
    omega
  · simp only [q, if_false] at h ⊢
    omega
theorem slot_last {t s : Nat} (ht : t < 8) : ((t + 1) % 8 + 9 + (addN s - 1) - addN s) % 8 = (t + 1) % 8 := by
  unfold addN
  split <;> omega
theorem addU_last {s : Nat} {U : Nat → Fm} {G : Fm} : addU s U G (addN s - 1) = G := by
  unfold addU addN
  by_cases h : s < 8
  · rw [if_pos h, if_pos h, if_neg (by omega)]
  · rw [if_neg h, if_neg h, if_neg (by omega)]
theorem addU_old {s k : Nat} {U : Nat → Fm} {G : Fm} (h : k + 1 < addN s) : addU s U G k = U (if s < 8 then k else k + 1) := by
  unfold addU addN at *
  by_cases q : s < 8
  · rw [if_pos q] at h
    rw [if_pos q, if_pos (by omega), if_pos q]
  · rw [if_neg q] at h
    rw [if_neg q, if_pos (by omega), if_neg q]
section KEEP
variable {n : Nat} {x : Nat → Nat → Int32} {w : Int64} {I : Nat → Nat → Int32} {L : Nat → Nat → Int64} {Q : Nat → Nat → Option Nat} {D : Nat → Bool} {s : Nat} {U : Nat → Fm} {G : Fm}
/-- the end of keep: a frame lies at the place, and takes the copy -/
theorem c_keep_end {t a : Nat} (hD : DOK n D) (hQ : PQ Q D) (hs : s ≤ 8) (ht : t < 8) (hold : ∀ k, k < s → WFf (U k) ∧ ∃ b, (Q 11 ((t + 9 + k - s) % 8) = some b ∨ (t + 9 + k - s) % 8 = (t + 1) % 8) ∧ ((t + 9 + k - s) % 8 ≠ (t + 1) % 8 → FrF x I b (U k))) (ha : Q 11 ((t + 1) % 8) = some a) (hx2 : x 10 2 = nI s) (hx1 : x 10 1 = nI ((t + 1) % 8)) (hG : FrF x I 8 G) (hw : WFf G) :
    ∃ x' I', (f_X2_copy (MM n x w I L Q D) a 8).bind (fun h8 => (gI h8 10 3 2).bind fun x9 => (pV h8 10 3 2 (.int (if (8 : Int32) < (x9 + (1 : Int32)) then (8 : Int32) else (x9 + (1 : Int32))))).bind fun h10 => some h10) = some (MM n x' w I' L Q D) ∧ HC n x' I' Q D (addN s) (addU s U G) ∧ (∀ b, b ≠ a → b ≠ 10 → x' b = x b) ∧ (∀ b, b ≠ a + 1 → I' b = I b) := by
  have hisd := hQ.ring (Nat.mod_lt _ (by decide)) ha
  obtain ⟨x', I', e1, e2, e3⟩ := c_copy (n := n) (x := x) (w := w) (I := I) (L := L) (Q := Q) (D := D) hisd.F (isF8 (D := D))
  have n10 := hisd.ne (k := 10) (by decide)
  have hx10 : ∀ j, x' 10 j = x 10 j := fun j => by rw [e2, if_neg (fun q => n10 q.1.symm)]
  have hsz : (if (8 : Int32) < (nI s + (1 : Int32)) then (8 : Int32) else (nI s + (1 : Int32))) = nI (addN s) := by
    rw [li8, li1, nI_add]
    unfold addN
    by_cases q : s < 8
    · rw [if_neg (nI_nlt (by omega) (by omega)), if_pos q]
    · rw [if_pos (nI_lt (by omega) (by omega)), if_neg q]
  refine ⟨s2 x' 10 2 (nI (addN s)), I', ?_, ⟨hD, hQ, by unfold addN; split <;> omega, s2_e, (t + 1) % 8, Nat.mod_lt _ (by decide), by rw [s2_ne (by decide), hx10, hx1], fun k hk => ?_⟩, ?_, ?_⟩
  · rw [e1, Option.bind_some, g_10_2, Option.bind_some, hx10, hx2, hsz, p_10_2, Option.bind_some]
  · by_cases hlast : k + 1 < addN s
    · rw [addU_old hlast, slot_old ht hs hlast]
      have hk' : (if s < 8 then k else k + 1) < s := by
        unfold addN at hlast
        split <;> rename_i q <;> simp only [q, if_true, if_false] at hlast <;> omega
      obtain ⟨g1, b, g2, g3⟩ := hold _ hk'
      have hne : (t + 9 + (if s < 8 then k else k + 1) - s) % 8 ≠ (t + 1) % 8 := by rw [← slot_old ht hs hlast]; exact slot_new ht hs hk hlast
      have g2 : Q 11 ((t + 9 + (if s < 8 then k else k + 1) - s) % 8) = some b := g2.resolve_right hne
      have hba : b ≠ a := fun e => by
        subst e
        exact hne (hQ.2 _ _ b (by omega) (by omega) (by unfold rq; rw [if_pos (by omega)]; exact g2) (by unfold rq; rw [if_pos (by omega)]; exact ha))
      have hbd := hQ.ring (Nat.mod_lt _ (by decide)) g2
      have hb1 : b + 1 ≠ a + 1 := by omega
      refine ⟨g1, b, g2, FrF.same ?_ ?_ (g3 hne)⟩
      · rw [s2_row (hbd.ne (by decide))]
        funext j
        rw [e2, if_neg (fun q => hba q.1)]
      · funext j
        rw [e3, if_neg (fun q => hb1 q.1)]
    · have hk2 : k = addN s - 1 := by omega
      subst hk2
      rw [addU_last, slot_last ht]
      refine ⟨hw, a, ha, ?_⟩
      have h8 : FrC x I 8 G.1 G.2.1 G.2.2.1 G.2.2.2 := hG
      show FrC _ _ _ _ _ _ _
      unfold FrC
      rw [s2_row (hisd.ne (by decide)), e2, e2, e2, if_pos ⟨rfl, by decide⟩, if_pos ⟨rfl, by decide⟩, if_pos ⟨rfl, by decide⟩]
      refine ⟨h8.1, h8.2.1, h8.2.2.1, fun d hd => ?_⟩
      rw [e3, if_pos ⟨rfl, hd⟩]
      exact h8.2.2.2 d hd
  · intro b h1 h2
    rw [s2_row h2]
    funext j
    rw [e2, if_neg (fun q => h1 q.1)]
  · intro b h1
    funext j
    rw [e3, if_neg (fun q => h1 q.1)]
theorem rem8 {t : Nat} (ht : t < 2 ^ 30) : nI t - nI t / (8 : Int32) * (8 : Int32) = nI (t % 8) := by
  rw [li8]
  exact pk_rem (by omega) (by decide) (by decide)
theorem c_newB {α : Type} (h : DOK n D) (K : Nat → Hp → Option α) : ((nO (MM n x w I L Q D) 2 [.int 0, .int 0, .int 0, .null]).bind fun x13 => (f_X2_init x13.2 x13.1).bind fun h14 => K x13.1 h14) = K n (MM (n + 2) (u1 x n (fun _ => 0)) w (u1 I (n + 1) (fun _ => 0)) L Q (fun k => decide (k = n) || D k)) := by
  have e := c_newF (n := n) (x := x) (w := w) (I := I) (L := L) (Q := Q) (D := D) h
  unfold nO at e ⊢
  rw [Option.bind_some] at e ⊢
  cases hf : f_X2_init (hpush (MM n x w I L Q D) (.inr (2, [.int 0, .int 0, .int 0, .null]))) n with
  | none =>
    have e : (f_X2_init (hpush (MM n x w I L Q D) (.inr (2, [.int 0, .int 0, .int 0, .null]))) n).bind _ = _ := e
    rw [hf] at e
    cases e
  | some z =>
    have e : (f_X2_init (hpush (MM n x w I L Q D) (.inr (2, [.int 0, .int 0, .int 0, .null]))) n).bind _ = _ := e
    rw [hf, Option.bind_some] at e
    show (f_X2_init (hpush (MM n x w I L Q D) (.inr (2, [.int 0, .int 0, .int 0, .null]))) n).bind _ = _
    rw [hf, Option.bind_some]
    have e := congrArg Prod.snd (Option.some.inj e)
    have e : z = _ := e
    rw [e]
    rfl
theorem c_keep (h : HC n x I Q D s U) (hG : FrF x I 8 G) (hw : WFf G) : ∃ n' x' I' Q' D', f_X3_keep (MM n x w I L Q D) 10 8 = some (MM n' x' w I' L Q' D') ∧ HC n' x' I' Q' D' (addN s) (addU s U G) ∧ Q' 12 = Q 12 ∧ (∀ a, isD D a → isD D' a) ∧ (∀ b, b < 81 → b ≠ 10 → x' b = x b) ∧ (∀ b, b < 81 → I' b = I b) ∧ (∀ k a, k < 2 → Q 12 k = some a → x' a = x a ∧ I' (a + 1) = I (a + 1)) := by
  obtain ⟨hD, hQ, hs, hx2, t, ht, hx1, hU⟩ := h
  have e0 : f_X3_keep (MM n x w I L Q D) 10 8 = (aQ (MM n (s2 x 10 1 (nI ((t + 1) % 8))) w I L Q D) 4 11 (nI ((t + 1) % 8))).bind fun x22 => if x22.isSome = true then ((aR (MM n (s2 x 10 1 (nI ((t + 1) % 8))) w I L Q D) 4 11 (nI ((t + 1) % 8))).bind fun x7 => if oK (MM n (s2 x 10 1 (nI ((t + 1) % 8))) w I L Q D) x7 2 = true then (f_X2_copy (MM n (s2 x 10 1 (nI ((t + 1) % 8))) w I L Q D) x7 8).bind fun h8 => (gI h8 10 3 2).bind fun x9 => (pV h8 10 3 2 (.int (if (8 : Int32) < (x9 + (1 : Int32)) then (8 : Int32) else (x9 + (1 : Int32))))).bind fun h10 => some h10 else none) else ((nO (MM n (s2 x 10 1 (nI ((t + 1) % 8))) w I L Q D) 2 [.int 0, .int 0, .int 0, .null]).bind fun x13 => (f_X2_init x13.2 x13.1).bind fun h14 => (sQ h14 11 (nI ((t + 1) % 8)) x13.1).bind fun h15 => (gR h15 10 3 0).bind fun x16 => (gI h15 10 3 1).bind fun x17 => (aR h15 4 x16 x17).bind fun x18 => if oK h15 x18 2 = true then (f_X2_copy h15 x18 8).bind fun h19 => (gI h19 10 3 2).bind fun x20 => (pV h19 10 3 2 (.int (if (8 : Int32) < (x20 + (1 : Int32)) then (8 : Int32) else (x20 + (1 : Int32))))).bind fun h21 => some h21 else none) := by
    unfold f_X3_keep
    rw [g_10_1, Option.bind_some, hx1, li1, nI_add, rem8 (by omega), p_10_1, Option.bind_some, r_10_0, Option.bind_some, g_10_1, Option.bind_some, s2_e]
    simp only [ob_s]
  rw [e0, q_at (a := 11) (len := 8) rfl (Nat.mod_lt _ (by decide)) (by decide), Option.bind_some]
  cases hq : Q 11 ((t + 1) % 8) with
  | some a =>
    have hisd := hQ.ring (Nat.mod_lt _ (by decide)) hq
    rw [if_pos (show (some a).isSome = true from rfl), q_ref (a := 11) (len := 8) rfl (Nat.mod_lt _ (by decide)) (by decide) hq, Option.bind_some, F_o hisd.F, if_pos rfl]
    obtain ⟨x', I', e1, e2, e3, e4⟩ := c_keep_end (n := n) (x := s2 x 10 1 (nI ((t + 1) % 8))) (w := w) (I := I) (L := L) (Q := Q) (D := D) (s := s) (U := U) (G := G) hD hQ hs ht (fun k hk => by
      obtain ⟨g1, b, g2, g3⟩ := hU k hk
      exact ⟨g1, b, Or.inl g2, fun _ => g3.same (s2_row ((hQ.ring (Nat.mod_lt _ (by decide)) g2).ne (by decide))) rfl⟩) hq (by rw [s2_ne (by decide)]; exact hx2) s2_e (hG.same (s2_row (by decide)) rfl) hw
    refine ⟨n, x', I', Q, D, e1, e2, rfl, fun _ h => h, fun b h1 h2 => ?_, fun b h1 => e4 b (by have := hisd.1; omega), fun k b hk hb => ?_⟩
    · rw [e3 b (by have := hisd.1; omega) h2, s2_row h2]
    · have hbd := hQ.img hk hb
      have hba : b ≠ a := fun e => by
        subst e
        have := hQ.2 ((t + 1) % 8) (8 + k) b (by omega) (by omega) (by unfold rq; rw [if_pos (by omega)]; exact hq) (by unfold rq; rw [if_neg (by omega), show 8 + k - 8 = k by omega]; exact hb)
        omega
      exact ⟨by rw [e3 b hba (hbd.ne (by decide)), s2_row (hbd.ne (by decide))], e4 _ (by omega)⟩
  | none =>
    have h81 := hD.1
    have hnD : isD (fun k => decide (k = n) || D k) n := ⟨h81, by simp, by show (decide (n + 1 = n) || D (n + 1)) = false; rw [hD.no (by omega)]; simp⟩
    have e1 := c_newB (n := n) (x := s2 x 10 1 (nI ((t + 1) % 8))) (w := w) (I := I) (L := L) (Q := Q) (D := D) hD (fun a h14 => (sQ h14 11 (nI ((t + 1) % 8)) a).bind fun h15 => (gR h15 10 3 0).bind fun x16 => (gI h15 10 3 1).bind fun x17 => (aR h15 4 x16 x17).bind fun x18 => if oK h15 x18 2 = true then (f_X2_copy h15 x18 8).bind fun h19 => (gI h19 10 3 2).bind fun x20 => (pV h19 10 3 2 (.int (if (8 : Int32) < (x20 + (1 : Int32)) then (8 : Int32) else (x20 + (1 : Int32))))).bind fun h21 => some h21 else none)
    rw [if_neg (show ¬ (none : Option Nat).isSome = true by decide), e1]
    have hDn : DOK (n + 2) (fun k => decide (k = n) || D k) := ⟨by omega, fun k hk => by
      have hk : (decide (k = n) || D k) = true := hk
      by_cases q : k = n
      · omega
      · have := hD.2 k (by simpa [q] using hk)
        omega⟩
    have hrq : ∀ i, rq (u1 Q 11 (va_up (Q 11) ((t + 1) % 8) (some n))) i = if i = (t + 1) % 8 then some n else rq Q i := by
      intro i
      unfold rq
      by_cases h8 : i < 8
      · rw [if_pos h8, if_pos h8, u1_e]
        rfl
      · rw [if_neg h8, if_neg h8, u1_n (by decide), if_neg (by omega)]
    have hQn : PQ (u1 Q 11 (va_up (Q 11) ((t + 1) % 8) (some n))) (fun k => decide (k = n) || D k) := by
      refine ⟨fun i a hi e => ?_, fun i j a hi hj e1 e2 => ?_⟩
      · rw [hrq] at e
        by_cases q : i = (t + 1) % 8
        · rw [if_pos q] at e
          cases e
          exact hnD
        · rw [if_neg q] at e
          exact (hQ.1 i a hi e).more hD
      · rw [hrq] at e1 e2
        by_cases q : i = (t + 1) % 8
        · rw [if_pos q] at e1
          cases e1
          by_cases q2 : j = (t + 1) % 8
          · omega
          · rw [if_neg q2] at e2
            have := hD.2 n (hQ.1 j n hj e2).2.1
            omega
        · rw [if_neg q] at e1
          by_cases q2 : j = (t + 1) % 8
          · rw [if_pos q2] at e2
            cases e2
            have := hD.2 n (hQ.1 i n hi e1).2.1
            omega
          · rw [if_neg q2] at e2
            exact hQ.2 i j a hi hj e1 e2
    have hat : u1 Q 11 (va_up (Q 11) ((t + 1) % 8) (some n)) 11 ((t + 1) % 8) = some n := by rw [u1_e]; exact if_pos rfl
    have hx10 : u1 (s2 x 10 1 (nI ((t + 1) % 8))) n (fun _ => 0) 10 = s2 x 10 1 (nI ((t + 1) % 8)) 10 := u1_n (by omega)
    have hold : ∀ a, isD D a → u1 (s2 x 10 1 (nI ((t + 1) % 8))) n (fun _ => 0) a = x a ∧ u1 I (n + 1) (fun _ => 0) (a + 1) = I (a + 1) := by
      intro a ha
      have := hD.2 a ha.2.1
      exact ⟨by rw [u1_n (by omega), s2_row (ha.ne (by decide))], u1_n (by omega)⟩
    obtain ⟨x', I', e2, e3, e4, e5⟩ := c_keep_end (n := n + 2) (x := u1 (s2 x 10 1 (nI ((t + 1) % 8))) n (fun _ => 0)) (w := w) (I := u1 I (n + 1) (fun _ => 0)) (L := L) (Q := u1 Q 11 (va_up (Q 11) ((t + 1) % 8) (some n))) (D := fun k => decide (k = n) || D k) (s := s) (U := U) (G := G) (t := t) (a := n) hDn hQn hs ht (fun k hk => by
      obtain ⟨g1, b, g2, g3⟩ := hU k hk
      have hb := hold b (hQ.ring (Nat.mod_lt _ (by decide)) g2)
      refine ⟨g1, b, ?_, fun _ => g3.same hb.1 hb.2⟩
      by_cases q : (t + 9 + k - s) % 8 = (t + 1) % 8
      · exact Or.inr q
      · refine Or.inl ?_
        rw [u1_e]
        exact (if_neg q).trans g2) hat (by rw [hx10, s2_ne (by decide)]; exact hx2) (by rw [hx10, s2_e]) (hG.same (by rw [u1_n (by omega), s2_row (by decide)]) (u1_n (by omega))) hw
    refine ⟨n + 2, x', I', u1 Q 11 (va_up (Q 11) ((t + 1) % 8) (some n)), _, ?_, e3, u1_n (by decide), fun a ha => ha.more hD, fun b h1 h2 => ?_, fun b h1 => ?_, fun k b hk hb => ?_⟩
    · rw [q_set (a := 11) (len := 8) rfl (Nat.mod_lt _ (by decide)) (by decide) hnD.F, Option.bind_some, r_10_0, Option.bind_some, g_10_1, Option.bind_some, hx10, s2_e, q_ref (a := 11) (len := 8) rfl (Nat.mod_lt _ (by decide)) (by decide) hat, Option.bind_some, F_o hnD.F, if_pos rfl]
      exact e2
    · rw [e4 b (by omega) h2, u1_n (by omega), s2_row h2]
    · rw [e5 b (by omega), u1_n (by omega)]
    · have hbd := hQ.img hk hb
      have := hD.2 b hbd.2.1
      have h9 := hold b hbd
      exact ⟨by rw [e4 b (by omega) (hbd.ne (by decide))]; exact h9.1, by rw [e5 _ (by omega)]; exact h9.2⟩
end KEEP
