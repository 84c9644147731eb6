/-! the text, token by token -/
def isDg (c : Nat) : Bool := decide (48 ≤ c ∧ c ≤ 57)
def isLt (c : Nat) : Bool := decide (97 ≤ c ∧ c ≤ 122)
def isSp (c : Nat) : Bool := decide (c = 32 ∨ c = 10)
theorem byN_lo : ∀ c, c < 256 → (byN c < 48 ↔ c < 48 ∨ 128 ≤ c) ∧ (57 < byN c ↔ 57 < c ∧ c < 128) ∧ (byN c < 97 ↔ c < 97 ∨ 128 ≤ c) ∧ (122 < byN c ↔ 122 < c ∧ c < 128) ∧ (byN c = 32 ↔ c = 32) ∧ (byN c = 10 ↔ c = 10) ∧ (byN c = 59 ↔ c = 59) ∧ (c < 128 → byN c = nI c) := by decide +kernel
/-- past what is blank -/
def skN (b : Nat → Nat) : Nat → Nat → Nat
  | 0, p => p
  | j + 1, p => if isSp (b p) = true then skN b j (p + 1) else p
theorem skN_le (b : Nat → Nat) : ∀ j p, p ≤ skN b j p ∧ skN b j p ≤ p + j
  | 0, p => ⟨Nat.le_refl _, Nat.le_refl _⟩
  | j + 1, p => by
    rw [skN]
    split
    · have := skN_le b j (p + 1); omega
    · omega
theorem skN_no (b : Nat → Nat) : ∀ j p, skN b j p < p + j → isSp (b (skN b j p)) = false
  | 0, p, h => by rw [skN] at h; omega
  | j + 1, p, h => by
    rw [skN] at h ⊢
    by_cases z : isSp (b p) = true
    · rw [if_pos z] at h ⊢
      exact skN_no b j (p + 1) (by omega)
    · rw [if_neg z]
      simpa using z
/-- a run of letters, digits: where it ends, how many of each, the number -/
def rnC (b : Nat → Nat) : Nat → Nat → Nat → Nat → Int32 → Nat × Nat × Nat × Int32
  | 0, p, l, d, v => (p, l, d, v)
  | j + 1, p, l, d, v => if isDg (b p) = true then rnC b j (p + 1) l (d + 1) (v * 10 + nI (b p) - 48) else if isLt (b p) = true then rnC b j (p + 1) (l + 1) d v else (p, l, d, v)
def kdN (l d : Nat) : Nat := if 0 < l ∧ d = 0 then 1 else if l = 0 ∧ (d = 1 ∨ d = 2) then 2 else 4
theorem rnC_le (b : Nat → Nat) : ∀ j p l d v, p ≤ (rnC b j p l d v).1 ∧ (rnC b j p l d v).1 ≤ p + j ∧ (rnC b j p l d v).2.1 + (rnC b j p l d v).2.2.1 + p = l + d + (rnC b j p l d v).1
  | 0, p, l, d, v => ⟨Nat.le_refl _, Nat.le_refl _, rfl⟩
  | j + 1, p, l, d, v => by
    rw [rnC]
    split
    · have := rnC_le b j (p + 1) l (d + 1) (v * 10 + nI (b p) - 48); omega
    · split
      · have := rnC_le b j (p + 1) (l + 1) d v; omega
      · exact ⟨Nat.le_refl _, by show p ≤ _; omega, rfl⟩
theorem ob1 {α β : Type} {o : Option α} {a : α} {f : α → Option β} (e : o = some a) : o.bind f = f a := by
  rw [e]
  rfl
section LEXC
variable {n : Nat} {w : Int64} {I : Nat → Nat → Int32} {L : Nat → Nat → Int64} {Q : Nat → Nat → Option Nat} {D : Nat → Bool} {b : Nat → Nat} {T : Nat}
def exR (v0 : Nat) (v1 v2 : Int32) (h : Hp) : Option Hp := if v1 ≤ 0 then (if v1 = 0 then (if v2 = (1 : Int32) then ((pV h v0 5 3 (.int (2 : Int32))).bind fun h4 => some h4) else (if v2 = (2 : Int32) then ((pV h v0 5 3 (.int (2 : Int32))).bind fun h6 => some h6) else ((pV h v0 5 3 (.int (4 : Int32))).bind fun h5 => some h5))) else ((pV h v0 5 3 (.int (4 : Int32))).bind fun h3 => some h3)) else (if v2 = 0 then ((pV h v0 5 3 (.int (1 : Int32))).bind fun h11 => some h11) else (if v1 = 0 then (if v2 = (1 : Int32) then ((pV h v0 5 3 (.int (2 : Int32))).bind fun h8 => some h8) else (if v2 = (2 : Int32) then ((pV h v0 5 3 (.int (2 : Int32))).bind fun h10 => some h10) else ((pV h v0 5 3 (.int (4 : Int32))).bind fun h9 => some h9))) else ((pV h v0 5 3 (.int (4 : Int32))).bind fun h7 => some h7)))
theorem exR_e {x : Nat → Nat → Int32} {l d : Nat} (hl : l < 2 ^ 31) (hd : d < 2 ^ 31) : exR 2 (nI l) (nI d) (MM n x w I L Q D) = some (MM n (s2 x 2 3 (nI (kdN l d))) w I L Q D) := by
  unfold exR kdN
  by_cases h0 : l = 0
  · subst h0
    rw [if_pos (by decide), if_pos (show nI 0 = 0 from rfl), if_neg (show ¬ (0 < 0 ∧ d = 0) by omega)]
    by_cases h1 : d = 1
    · rw [if_pos (show nI d = 1 by rw [h1]; rfl), if_pos ⟨rfl, Or.inl h1⟩, p_2_3, ob_s]; rfl
    · rw [if_neg (show ¬ nI d = 1 from fun z => h1 ((nI_eq (b := 1) hd (by decide)).mp z))]
      by_cases h2 : d = 2
      · rw [if_pos (show nI d = 2 by rw [h2]; rfl), if_pos ⟨rfl, Or.inr h2⟩, p_2_3, ob_s]; rfl
      · rw [if_neg (show ¬ nI d = 2 from fun z => h2 ((nI_eq (b := 2) hd (by decide)).mp z)), if_neg (fun z => z.2.elim h1 h2), p_2_3, ob_s]; rfl
  · rw [if_neg (nI_nle (by omega) hl)]
    by_cases h1 : d = 0
    · rw [if_pos (show nI d = 0 by rw [h1]; rfl), if_pos ⟨by omega, h1⟩, p_2_3, ob_s]; rfl
    · rw [if_neg (nI_ne0 (by omega) hd), if_neg (nI_ne0 (by omega) hl), if_neg (fun z => h1 z.2), if_neg (fun z => h0 z.1), p_2_3, ob_s]; rfl
theorem run_step {x : Nat → Nat → Int32} {p fu : Nat} {v1 v2 : Int32} (hp31 : p < 2 ^ 31) (h5 : x 2 5 = nI p) (h2 : x 2 2 = nI T) (hT : T ≤ 340) (hb : ∀ j, j < T → b j < 256 ∧ I 5 j = byN (b j)) : f_X5_advanceRun_9 (fu + 1) 2 v1 v2 (MM n x w I L Q D) = if T ≤ p then exR 2 v1 v2 (MM n x w I L Q D) else if isDg (b p) = true then f_X5_advanceRun_9 fu 2 v1 (v2 + 1) (MM n (s2 (s2 x 2 6 (x 2 6 * 10 + nI (b p) - 48)) 2 5 (nI (p + 1))) w I L Q D) else if isLt (b p) = true then f_X5_advanceRun_9 fu 2 (v1 + 1) v2 (MM n (s2 x 2 5 (nI (p + 1))) w I L Q D) else exR 2 v1 v2 (MM n x w I L Q D) := by
  rw [f_X5_advanceRun_9, ob1 g_2_5, ob1 g_2_2, h5, h2]
  by_cases hp : T ≤ p
  · rw [if_pos hp]
    rw [if_pos (nI_le hp hp31)]
    rfl
  · rw [if_neg hp, if_neg (nI_ge (by omega) (by omega)), ob1 r_2_1, ob1 g_2_5, h5, ob1 (a_at (a := 5) (len := 340) rfl (Or.inr (Or.inl rfl)) (by omega) (by decide)), (hb p (by omega)).2]
    have hc := byN_lo (b p) (hb p (by omega)).1
    have hc256 := (hb p (by omega)).1
    by_cases d1 : isDg (b p) = true
    · have d2 : 48 ≤ b p ∧ b p ≤ 57 := by unfold isDg at d1; simpa using d1
      rw [if_pos d1, if_neg (fun z => by have := hc.1.mp z; omega), if_neg (fun z => by have := hc.2.1.mp z; omega), ob1 g_2_6, ob1 p_2_6, ob1 g_2_5, ob1 p_2_5, s2_ne (by decide), h5, nI_1, hc.2.2.2.2.2.2.2 (by omega)]
    · rw [if_neg d1]
      by_cases l1 : isLt (b p) = true
      · have l2 : 97 ≤ b p ∧ b p ≤ 122 := by unfold isLt at l1; simpa using l1
        rw [if_pos l1, if_neg (fun z => by have := hc.1.mp z; omega), if_pos (hc.2.1.mpr (by omega)), if_neg (fun z => by have := hc.2.2.1.mp z; omega), if_neg (fun z => by have := hc.2.2.2.1.mp z; omega), ob1 g_2_5, ob1 p_2_5, h5, nI_1]
      · rw [if_neg l1]
        have nd : ¬ (48 ≤ b p ∧ b p ≤ 57) := fun z => d1 (by unfold isDg; simpa using z)
        have nl : ¬ (97 ≤ b p ∧ b p ≤ 122) := fun z => l1 (by unfold isLt; simpa using z)
        by_cases a1 : byN (b p) < 48
        · rw [if_pos a1]
          by_cases a2 : byN (b p) < 97
          · rw [if_pos a2]; rfl
          · exact absurd (hc.2.2.1.mpr (by have := hc.1.mp a1; omega)) a2
        · rw [if_neg a1]
          have b1 : ¬ (b p < 48 ∨ 128 ≤ b p) := fun z => a1 (hc.1.mpr z)
          rw [if_pos (hc.2.1.mpr (by omega))]
          by_cases a2 : byN (b p) < 97
          · rw [if_pos a2]; rfl
          · have b2 : ¬ (b p < 97 ∨ 128 ≤ b p) := fun z => a2 (hc.2.2.1.mpr z)
            rw [if_neg a2, if_pos (hc.2.2.2.1.mpr (by omega))]; rfl
theorem run_l (hT : T ≤ 340) (hb : ∀ j, j < T → b j < 256 ∧ I 5 j = byN (b j)) : ∀ (j p l d fu : Nat) (v : Int32) (x : Nat → Nat → Int32), p + j = T → j < fu → x 2 5 = nI p → x 2 2 = nI T → x 2 6 = v → l + d ≤ p →
    ∃ x', f_X5_advanceRun_9 fu 2 (nI l) (nI d) (MM n x w I L Q D) = some (MM n x' w I L Q D) ∧ x' 2 3 = nI (kdN (rnC b j p l d v).2.1 (rnC b j p l d v).2.2.1) ∧ x' 2 5 = nI (rnC b j p l d v).1 ∧ x' 2 6 = (rnC b j p l d v).2.2.2 ∧ ∀ a k, ¬ (a = 2 ∧ (k = 3 ∨ k = 5 ∨ k = 6)) → x' a k = x a k
  | 0, p, l, d, fu, v, x, hp, hf, h5, h2, h6, hld => by
    obtain ⟨fu, rfl⟩ : ∃ n9, fu = n9 + 1 := ⟨fu - 1, by omega⟩
    refine ⟨s2 x 2 3 (nI (kdN l d)), ?_, s2_e, by rw [s2_ne (by decide), h5]; rfl, by rw [s2_ne (by decide), h6]; rfl, fun a k z => s2_ne (by omega)⟩
    rw [run_step (b := b) (T := T) (by omega) h5 h2 hT hb, if_pos (by omega), exR_e (by omega) (by omega)]
  | j + 1, p, l, d, fu, v, x, hp, hf, h5, h2, h6, hld => by
    obtain ⟨fu, rfl⟩ : ∃ n9, fu = n9 + 1 := ⟨fu - 1, by omega⟩
    rw [run_step (b := b) (T := T) (by omega) h5 h2 hT hb, if_neg (by omega), rnC]
    by_cases d1 : isDg (b p) = true
    · rw [if_pos d1, if_pos d1, nI_1, h6]
      obtain ⟨x', e1, e2, e3, e4, e5⟩ := run_l hT hb j (p + 1) l (d + 1) fu (v * 10 + nI (b p) - 48) (s2 (s2 x 2 6 (v * 10 + nI (b p) - 48)) 2 5 (nI (p + 1))) (by omega) (by omega) s2_e (by rw [s2_ne (by decide), s2_ne (by decide)]; exact h2) (by rw [s2_ne (by decide), s2_e]) (by omega)
      exact ⟨x', e1, e2, e3, e4, fun a k z => by rw [e5 a k z, s2_ne (by omega), s2_ne (by omega)]⟩
    · rw [if_neg d1, if_neg d1]
      by_cases l1 : isLt (b p) = true
      · rw [if_pos l1, if_pos l1, nI_1]
        obtain ⟨x', e1, e2, e3, e4, e5⟩ := run_l hT hb j (p + 1) (l + 1) d fu v (s2 x 2 5 (nI (p + 1))) (by omega) (by omega) s2_e (by rw [s2_ne (by decide)]; exact h2) (by rw [s2_ne (by decide)]; exact h6) (by omega)
        exact ⟨x', e1, e2, e3, e4, fun a k z => by rw [e5 a k z, s2_ne (by omega)]⟩
      · rw [if_neg l1, if_neg l1]
        refine ⟨s2 x 2 3 (nI (kdN l d)), exR_e (by omega) (by omega), s2_e, by rw [s2_ne (by decide), h5], by rw [s2_ne (by decide), h6], fun a k z => s2_ne (by omega)⟩
def exA (v0 : Nat) (h : Hp) : Option Hp := (gI h v0 5 5).bind fun x3 => (pV h v0 5 4 (.int x3)).bind fun h4 => (gI h4 v0 5 2).bind fun x5 => if x5 ≤ (300 : Int32) then ((gI h4 v0 5 4).bind fun x6 => (gI h4 v0 5 2).bind fun x7 => if x6 < x7 then ((gR h4 v0 5 1).bind fun x8 => (gI h4 v0 5 4).bind fun x9 => (aI h4 1 x8 x9).bind fun x10 => if x10 = (59 : Int32) then ((pV h4 v0 5 3 (.int (3 : Int32))).bind fun h12 => (gI h12 v0 5 5).bind fun x13 => (pV h12 v0 5 5 (.int (x13 + (1 : Int32)))).bind fun h14 => some h14) else (if oK h4 v0 5 = true then (f_X5_advanceRun h4 v0).bind fun h11 => some h11 else none)) else ((pV h4 v0 5 3 (.int (0 : Int32))).bind fun h15 => some h15)) else ((gI h4 v0 5 4).bind fun x16 => if x16 < (300 : Int32) then ((gI h4 v0 5 4).bind fun x17 => (gI h4 v0 5 2).bind fun x18 => if x17 < x18 then ((gR h4 v0 5 1).bind fun x19 => (gI h4 v0 5 4).bind fun x20 => (aI h4 1 x19 x20).bind fun x21 => if x21 = (59 : Int32) then ((pV h4 v0 5 3 (.int (3 : Int32))).bind fun h23 => (gI h23 v0 5 5).bind fun x24 => (pV h23 v0 5 5 (.int (x24 + (1 : Int32)))).bind fun h25 => some h25) else (if oK h4 v0 5 = true then (f_X5_advanceRun h4 v0).bind fun h22 => some h22 else none)) else ((pV h4 v0 5 3 (.int (0 : Int32))).bind fun h26 => some h26)) else ((pV h4 v0 5 4 (.int (300 : Int32))).bind fun h27 => (pV h27 v0 5 3 (.int (4 : Int32))).bind fun h28 => some h28))
/-- the token at a place that isn't blank -/
def tkAt (b : Nat → Nat) (T p : Nat) : Nat × Nat × Nat × Int32 := if 300 < T ∧ 300 ≤ p then (4, 300, p, 0) else if T ≤ p then (0, p, p, 0) else if b p = 59 then (3, p, p + 1, 0) else (kdN (rnC b (T - p) p 0 0 0).2.1 (rnC b (T - p) p 0 0 0).2.2.1, p, (rnC b (T - p) p 0 0 0).1, (rnC b (T - p) p 0 0 0).2.2.2)
/-- what the class's reader holds of a token -/
def TkC (x : Nat → Nat → Int32) (t : Nat × Nat × Nat × Int32) : Prop := x 2 3 = nI t.1 ∧ x 2 4 = nI t.2.1 ∧ x 2 5 = nI t.2.2.1 ∧ (t.1 = 2 → x 2 6 = t.2.2.2)
theorem exA_e {x : Nat → Nat → Int32} {p : Nat} (hT : T ≤ 340) (hp : p ≤ 340) (hb : ∀ j, j < T → b j < 256 ∧ I 5 j = byN (b j)) (h5 : x 2 5 = nI p) (h2 : x 2 2 = nI T) : ∃ x', exA 2 (MM n x w I L Q D) = some (MM n x' w I L Q D) ∧ TkC x' (tkAt b T p) ∧ ∀ a k, ¬ (a = 2 ∧ 3 ≤ k ∧ k ≤ 6) → x' a k = x a k := by
  have e4 : (s2 x 2 4 (nI p)) 2 2 = nI T := by rw [s2_ne (by decide), h2]
  have e5 : (s2 x 2 4 (nI p)) 2 5 = nI p := by rw [s2_ne (by decide), h5]
  -- where there is a token
  have tok : p < T → ∃ x', ((gR (MM n (s2 x 2 4 (nI p)) w I L Q D) 2 5 1).bind fun x8 => (gI (MM n (s2 x 2 4 (nI p)) w I L Q D) 2 5 4).bind fun x9 => (aI (MM n (s2 x 2 4 (nI p)) w I L Q D) 1 x8 x9).bind fun x10 => if x10 = (59 : Int32) then ((pV (MM n (s2 x 2 4 (nI p)) w I L Q D) 2 5 3 (.int (3 : Int32))).bind fun h12 => (gI h12 2 5 5).bind fun x13 => (pV h12 2 5 5 (.int (x13 + (1 : Int32)))).bind fun h14 => some h14) else (if oK (MM n (s2 x 2 4 (nI p)) w I L Q D) 2 5 = true then (f_X5_advanceRun (MM n (s2 x 2 4 (nI p)) w I L Q D) 2).bind fun h11 => some h11 else none)) = some (MM n x' w I L Q D) ∧ TkC x' (if b p = 59 then (3, p, p + 1, 0) else (kdN (rnC b (T - p) p 0 0 0).2.1 (rnC b (T - p) p 0 0 0).2.2.1, p, (rnC b (T - p) p 0 0 0).1, (rnC b (T - p) p 0 0 0).2.2.2)) ∧ ∀ a k, ¬ (a = 2 ∧ 3 ≤ k ∧ k ≤ 6) → x' a k = x a k := fun hpT => by
    have hc := byN_lo (b p) (hb p hpT).1
    rw [r_2_1, ob_s, g_2_4, ob_s, s2_e, a_at (a := 5) (len := 340) rfl (Or.inr (Or.inl rfl)) (by omega) (by decide), ob_s, (hb p hpT).2]
    by_cases z : b p = 59
    · refine ⟨s2 (s2 (s2 x 2 4 (nI p)) 2 3 3) 2 5 (nI (p + 1)), ?_, ?_, fun a k h => by rw [s2_ne (by omega), s2_ne (by omega), s2_ne (by omega)]⟩
      · rw [if_pos (hc.2.2.2.2.2.2.1.mpr z), p_2_3, ob_s, g_2_5, ob_s, p_2_5, ob_s, s2_ne (by decide), e5, nI_1]
      · rw [if_pos z]
        refine ⟨?_, ?_, s2_e, fun h => by cases h⟩
        · rw [s2_ne (by decide), s2_e]; rfl
        · rw [s2_ne (by decide), s2_ne (by decide), s2_e]
    · obtain ⟨x', q1, q2, q3, q4, q5⟩ := run_l (n := n) (w := w) (L := L) (Q := Q) (D := D) hT hb (T - p) p 0 0 4096 0 (s2 (s2 x 2 4 (nI p)) 2 6 0) (by omega) (by omega) (by rw [s2_ne (by decide), e5]) (by rw [s2_ne (by decide), e4]) s2_e (by omega)
      refine ⟨x', ?_, ?_, fun a k h => by rw [q5 a k (by omega), s2_ne (by omega), s2_ne (by omega)]⟩
      · rw [if_neg (fun y => z (hc.2.2.2.2.2.2.1.mp y)), o_2, if_pos rfl]
        unfold f_X5_advanceRun
        rw [p_2_6, ob_s]
        show (f_X5_advanceRun_9 4096 2 (nI 0) (nI 0) _).bind _ = _
        rw [q1, ob_s]
      · rw [if_neg z]
        exact ⟨q2, by rw [q5 2 4 (by omega), s2_ne (by decide), s2_e], q3, fun _ => q4⟩
  have fin0 : T ≤ p → (pV (MM n (s2 x 2 4 (nI p)) w I L Q D) 2 5 3 (.int (0 : Int32))).bind (fun h15 => some h15) = some (MM n (s2 (s2 x 2 4 (nI p)) 2 3 0) w I L Q D) ∧ TkC (s2 (s2 x 2 4 (nI p)) 2 3 0) (0, p, p, 0) := fun hpT => by
    refine ⟨by rw [p_2_3, ob_s], by rw [s2_e]; rfl, by rw [s2_ne (by decide), s2_e], by rw [s2_ne (by decide), e5], fun h => by cases h⟩
  unfold exA tkAt
  rw [ob1 g_2_5, h5, ob1 p_2_4, ob1 g_2_2, e4]
  by_cases h3 : T ≤ 300
  · rw [if_pos (show nI T ≤ 300 from nI_le (b := 300) h3 (by decide)), if_neg (show ¬ (300 < T ∧ 300 ≤ p) by omega), ob1 g_2_4, s2_e, ob1 g_2_2, e4]
    by_cases hpT : p < T
    · rw [if_pos (nI_lt hpT (by omega)), if_neg (show ¬ T ≤ p by omega)]
      exact tok hpT
    · rw [if_neg (nI_nlt (by omega) (by omega)), if_pos (show T ≤ p by omega)]
      obtain ⟨f1, f2⟩ := fin0 (by omega)
      exact ⟨_, f1, f2, fun a k h => by rw [s2_ne (by omega), s2_ne (by omega)]⟩
  · rw [if_neg (show ¬ nI T ≤ 300 from nI_ge (a := 300) (by omega) (by omega)), ob1 g_2_4, s2_e]
    by_cases hp3 : p < 300
    · rw [if_pos (show nI p < 300 from nI_lt (b := 300) hp3 (by decide)), if_neg (show ¬ (300 < T ∧ 300 ≤ p) by omega), ob1 g_2_4, s2_e, ob1 g_2_2, e4]
      by_cases hpT : p < T
      · rw [if_pos (nI_lt hpT (by omega)), if_neg (show ¬ T ≤ p by omega)]
        exact tok hpT
      · omega
    · rw [if_neg (show ¬ nI p < 300 from nI_nlt (b := 300) (by omega) (by omega)), if_pos (show 300 < T ∧ 300 ≤ p by omega)]
      refine ⟨s2 (s2 (s2 x 2 4 (nI p)) 2 4 300) 2 3 4, by rw [p_2_4, ob_s, p_2_3, ob_s], ⟨by rw [s2_e]; rfl, by rw [s2_ne (by decide), s2_e]; rfl, by rw [s2_ne (by decide), s2_ne (by decide), e5], fun h => by cases h⟩, fun a k h => by rw [s2_ne (by omega), s2_ne (by omega), s2_ne (by omega)]⟩
theorem adv_step {x : Nat → Nat → Int32} {p fu : Nat} (hT : T ≤ 340) (hp : p ≤ 340) (hb : ∀ j, j < T → b j < 256 ∧ I 5 j = byN (b j)) (h5 : x 2 5 = nI p) (h2 : x 2 2 = nI T) : f_X5_advance_0 (fu + 1) 2 (MM n x w I L Q D) = if p < T ∧ isSp (b p) = true then f_X5_advance_0 fu 2 (MM n (s2 x 2 5 (nI (p + 1))) w I L Q D) else exA 2 (MM n x w I L Q D) := by
  rw [f_X5_advance_0, ob1 g_2_5, ob1 g_2_2, h5, h2]
  by_cases hpT : p < T
  · have hc := byN_lo (b p) (hb p hpT).1
    have hrd : aI (MM n x w I L Q D) 1 5 (nI p) = some (byN (b p)) := by rw [a_at (a := 5) (len := 340) rfl (Or.inr (Or.inl rfl)) (by omega) (by decide), (hb p hpT).2]
    rw [if_neg (nI_ge hpT (by omega)), ob1 r_2_1, ob1 g_2_5, h5, ob1 hrd]
    by_cases z : b p = 32
    · rw [if_pos (hc.2.2.2.2.1.mpr z), if_pos ⟨hpT, by unfold isSp; simp [z]⟩, ob1 g_2_5, h5, ob1 p_2_5, nI_1]
    · rw [if_neg (fun y => z (hc.2.2.2.2.1.mp y)), ob1 r_2_1, ob1 g_2_5, h5, ob1 hrd]
      by_cases y : b p = 10
      · rw [if_pos (hc.2.2.2.2.2.1.mpr y), if_pos ⟨hpT, by unfold isSp; simp [y]⟩, ob1 g_2_5, h5, ob1 p_2_5, nI_1]
      · rw [if_neg (fun q => y (hc.2.2.2.2.2.1.mp q)), if_neg (fun q => by have := q.2; unfold isSp at this; simp at this; omega)]
        rfl
  · rw [if_pos (nI_le (by omega) (by omega)), if_neg (fun q => hpT q.1)]
    rfl
theorem c_adv_l (hT : T ≤ 340) (hb : ∀ j, j < T → b j < 256 ∧ I 5 j = byN (b j)) : ∀ (j p fu : Nat) (x : Nat → Nat → Int32), p + j = T → j < fu → x 2 5 = nI p → x 2 2 = nI T → ∃ x', f_X5_advance_0 fu 2 (MM n x w I L Q D) = some (MM n x' w I L Q D) ∧ TkC x' (tkAt b T (skN b j p)) ∧ ∀ a k, ¬ (a = 2 ∧ 3 ≤ k ∧ k ≤ 6) → x' a k = x a k
  | 0, p, fu, x, hp, hf, h5, h2 => by
    obtain ⟨fu, rfl⟩ : ∃ n9, fu = n9 + 1 := ⟨fu - 1, by omega⟩
    rw [adv_step (b := b) hT (by omega) hb h5 h2, if_neg (by omega), skN]
    exact exA_e hT (by omega) hb h5 h2
  | j + 1, p, fu, x, hp, hf, h5, h2 => by
    obtain ⟨fu, rfl⟩ : ∃ n9, fu = n9 + 1 := ⟨fu - 1, by omega⟩
    rw [adv_step (b := b) hT (by omega) hb h5 h2, skN]
    by_cases z : isSp (b p) = true
    · rw [if_pos ⟨by omega, z⟩, if_pos z]
      obtain ⟨x', e1, e2, e3⟩ := c_adv_l hT hb j (p + 1) fu (s2 x 2 5 (nI (p + 1))) (by omega) (by omega) s2_e (by rw [s2_ne (by decide), h2])
      exact ⟨x', e1, e2, fun a k h => by rw [e3 a k h, s2_ne (by omega)]⟩
    · rw [if_neg (fun q => z q.2), if_neg z]
      exact exA_e hT (by omega) hb h5 h2
theorem c_adv {x : Nat → Nat → Int32} {p : Nat} (hT : T ≤ 340) (hp : p ≤ T) (hb : ∀ j, j < T → b j < 256 ∧ I 5 j = byN (b j)) (h5 : x 2 5 = nI p) (h2 : x 2 2 = nI T) : ∃ x', f_X5_advance (MM n x w I L Q D) 2 = some (MM n x' w I L Q D) ∧ TkC x' (tkAt b T (skN b (T - p) p)) ∧ ∀ a k, ¬ (a = 2 ∧ 3 ≤ k ∧ k ≤ 6) → x' a k = x a k := c_adv_l hT hb (T - p) p 4096 x (by omega) (by omega) h5 h2
end LEXC
