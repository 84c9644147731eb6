/-! the model's tokens -/
def srt (k : Nat) : Nat := if k = 0 then 0 else if k = 1 then 2 else if k = 2 then 3 else if k = 3 then 4 else 1
def cdB (b : Nat → Nat) (f : Nat) : Nat → Nat
  | 0 => 0
  | k + 1 => 27 * cdB b f k + (b (f + k) - 96)
def rnM (b : Nat → Nat) (f : Nat) (lt : Bool) : Nat → Nat → Bool → Int32 → Int64 → Nat × Bool × Int32 × Int64
  | 0, p, g, nm, wd => (p, g, nm, wd)
  | j + 1, p, g, nm, wd => if isDg (b p) = true ∨ isLt (b p) = true then rnM b f lt j (p + 1) (g && (isLt (b p) == lt)) (if p - f < 2 then 10 * nm + nI (b p) - 48 else nm) (if p - f < 6 then 27 * wd + lN (b p) - 96 else wd) else (p, g, nm, wd)
/-- both runs together -/
def rInv (b : Nat → Nat) (f : Nat) (lt : Bool) (p l d : Nat) (v : Int32) (g : Bool) (nm : Int32) (wd : Int64) : Prop := l + d + f = p ∧ (lt = true → g = decide (d = 0)) ∧ (lt = false → g = decide (l = 0)) ∧ (l = 0 → d ≤ 2 → nm = v) ∧ (d = 0 → wd = lN (cdB b f (min l 6)) ∧ ∀ i, i < l → isLt (b (f + i)) = true)
theorem dg_lt_no {c : Nat} (h : isDg c = true) : isLt c = false := by
  unfold isDg at h
  unfold isLt
  simp at h ⊢
  omega
theorem rn_rel {b : Nat → Nat} {f : Nat} {lt : Bool} : ∀ (j p l d : Nat) (v : Int32) (g : Bool) (nm : Int32) (wd : Int64), rInv b f lt p l d v g nm wd → (rnM b f lt j p g nm wd).1 = (rnC b j p l d v).1 ∧ rInv b f lt (rnC b j p l d v).1 (rnC b j p l d v).2.1 (rnC b j p l d v).2.2.1 (rnC b j p l d v).2.2.2 (rnM b f lt j p g nm wd).2.1 (rnM b f lt j p g nm wd).2.2.1 (rnM b f lt j p g nm wd).2.2.2
  | 0, p, l, d, v, g, nm, wd, h => ⟨rfl, h⟩
  | j + 1, p, l, d, v, g, nm, wd, h => by
    obtain ⟨h1, h2, h3, h4, h5⟩ := h
    rw [rnM, rnC]
    by_cases d1 : isDg (b p) = true
    · have nl := dg_lt_no d1
      rw [if_pos (Or.inl d1), if_pos d1]
      refine rn_rel j (p + 1) l (d + 1) _ _ _ _ ⟨by omega, fun q => ?_, fun q => ?_, fun q1 q2 => ?_, fun q => by omega⟩
      · rw [nl, q]; simp
      · rw [nl, q, h3 q]; simp
      · rw [if_pos (by omega), h4 q1 (by omega), Int32.mul_comm]
    · by_cases l1 : isLt (b p) = true
      · rw [if_pos (Or.inr l1), if_neg d1, if_pos l1]
        have l2 : 97 ≤ b p ∧ b p ≤ 122 := by unfold isLt at l1; simpa using l1
        refine rn_rel j (p + 1) (l + 1) d _ _ _ _ ⟨by omega, fun q => ?_, fun q => ?_, fun q1 q2 => by omega, fun q => ⟨?_, fun i hi => ?_⟩⟩
        · rw [l1, q, h2 q]; simp
        · rw [l1, q]; simp
        · have e := (h5 q).1
          by_cases z : p - f < 6
          · rw [if_pos z, e, show min l 6 = l by omega, show min (l + 1) 6 = l + 1 by omega, cdB, show (27 : Int64) = lN 27 from rfl, lN_mul, lN_add, show (96 : Int64) = lN 96 from rfl, lN_sub (by omega), show f + l = p by omega]
            congr 1
            omega
          · rw [if_neg z, e, show min l 6 = 6 by omega, show min (l + 1) 6 = 6 by omega]
        · by_cases z : i = l
          · rw [z, show f + l = p by omega]; exact l1
          · exact (h5 q).2 i (by omega)
      · rw [if_neg (fun y => y.elim d1 l1), if_neg d1, if_neg l1]
        exact ⟨rfl, h1, h2, h3, h4, h5⟩
section LEXM
variable {n : Nat} {I : Nat → Nat → Int32} {L : Nat → Nat → Int64} {Q : Nat → Nat → Option Nat} {D : Nat → Bool} {b : Nat → Nat} {T : Nat}
theorem m_isLt {h : Hp} {c : Nat} (hc : c < 256) : f_X7_isLetter h (nI c) = some (bI (isLt c)) := by
  unfold f_X7_isLetter isLt
  by_cases z1 : c < 97
  · rw [if_pos (show nI c < 97 from nI_lt (b := 97) z1 (by decide)), show decide (97 ≤ c ∧ c ≤ 122) = false from decide_eq_false (by omega)]; rfl
  · rw [if_neg (show ¬ nI c < 97 from nI_nlt (b := 97) (by omega) (by omega))]
    by_cases z2 : 122 < c
    · rw [if_pos (show (122 : Int32) < nI c from nI_lt (a := 122) z2 (by omega)), show decide (97 ≤ c ∧ c ≤ 122) = false from decide_eq_false (by omega)]; rfl
    · rw [if_neg (show ¬ (122 : Int32) < nI c from nI_nlt (a := 122) (by omega) (by decide)), show decide (97 ≤ c ∧ c ≤ 122) = true from decide_eq_true (by omega)]; rfl
theorem m_isDg {h : Hp} {c : Nat} (hc : c < 256) : f_X7_isDigit h (nI c) = some (bI (isDg c)) := by
  unfold f_X7_isDigit isDg
  by_cases z1 : c < 48
  · rw [if_pos (show nI c < 48 from nI_lt (b := 48) z1 (by decide)), show decide (48 ≤ c ∧ c ≤ 57) = false from decide_eq_false (by omega)]; rfl
  · rw [if_neg (show ¬ nI c < 48 from nI_nlt (b := 48) (by omega) (by omega))]
    by_cases z2 : 57 < c
    · rw [if_pos (show (57 : Int32) < nI c from nI_lt (a := 57) z2 (by omega)), show decide (48 ≤ c ∧ c ≤ 57) = false from decide_eq_false (by omega)]; rfl
    · rw [if_neg (show ¬ (57 : Int32) < nI c from nI_nlt (a := 57) (by omega) (by decide)), show decide (48 ≤ c ∧ c ≤ 57) = true from decide_eq_true (by omega)]; rfl
def tlG (n v0 : Nat) (v2 g x6 : Int32) (h : Hp) : Option Hp := (gI h v0 7 4).bind fun x7 => (gI h v0 7 5).bind fun x8 => if (6 : Int32) ≤ (x7 - x8) then ((gI h v0 7 4).bind fun x9 => (gI h v0 7 5).bind fun x10 => if (2 : Int32) ≤ (x9 - x10) then ((gI h v0 7 4).bind fun x11 => (pV h v0 7 4 (.int (x11 + (1 : Int32)))).bind fun h12 => f_X7_goes_177 n v0 v2 g h12) else ((gI h v0 7 7).bind fun x13 => (pV h v0 7 7 (.int ((((10 : Int32) * x13) + x6) - (48 : Int32)))).bind fun h14 => (gI h14 v0 7 4).bind fun x15 => (pV h14 v0 7 4 (.int (x15 + (1 : Int32)))).bind fun h16 => f_X7_goes_177 n v0 v2 g h16)) else ((gL h v0 7 10).bind fun x17 => (pV h v0 7 10 (.long ((((27 : Int64) * x17) + x6.toInt64) - (96 : Int64)))).bind fun h18 => (gI h18 v0 7 4).bind fun x19 => (gI h18 v0 7 5).bind fun x20 => if (2 : Int32) ≤ (x19 - x20) then ((gI h18 v0 7 4).bind fun x21 => (pV h18 v0 7 4 (.int (x21 + (1 : Int32)))).bind fun h22 => f_X7_goes_177 n v0 v2 g h22) else ((gI h18 v0 7 7).bind fun x23 => (pV h18 v0 7 7 (.int ((((10 : Int32) * x23) + x6) - (48 : Int32)))).bind fun h24 => (gI h24 v0 7 4).bind fun x25 => (pV h24 v0 7 4 (.int (x25 + (1 : Int32)))).bind fun h26 => f_X7_goes_177 n v0 v2 g h26))
def exG (v0 : Nat) (v2 v3 : Int32) (h : Hp) : Option Hp := if v3 = 0 then ((pV h v0 7 6 (.int (1 : Int32))).bind fun h71 => some h71) else (if v2 = 0 then ((gI h v0 7 4).bind fun x74 => (gI h v0 7 5).bind fun x75 => if (x74 - x75) ≤ (2 : Int32) then (if v2 = 0 then ((pV h v0 7 6 (.int (3 : Int32))).bind fun h76 => some h76) else ((pV h v0 7 6 (.int (2 : Int32))).bind fun h77 => some h77)) else ((pV h v0 7 6 (.int (1 : Int32))).bind fun h78 => some h78)) else (if v2 = 0 then ((pV h v0 7 6 (.int (3 : Int32))).bind fun h72 => some h72) else ((pV h v0 7 6 (.int (2 : Int32))).bind fun h73 => some h73)))
theorem tlG_e {x : Nat → Nat → Int32} {w : Int64} {p f fu c : Nat} {v2 g : Int32} (h4 : x 64 4 = nI p) (h5 : x 64 5 = nI f) (hf : f ≤ p) (hp : p < 1000) (hc : c < 256) : ∃ x', tlG fu 64 v2 g (nI c) (MM n x w I L Q D) = f_X7_goes_177 fu 64 v2 g (MM n x' (if p - f < 6 then 27 * w + lN c - 96 else w) I L Q D) ∧ x' 64 4 = nI (p + 1) ∧ x' 64 7 = (if p - f < 2 then 10 * x 64 7 + nI c - 48 else x 64 7) ∧ ∀ a k, ¬ (a = 64 ∧ (k = 4 ∨ k = 7)) → x' a k = x a k := by
  have hsub : nI p - nI f = nI (p - f) := pk_sub hf
  have hl : (nI c).toInt64 = lN c := nI_l (by omega)
  unfold tlG
  rw [g_64_4, ob_s, g_64_5, ob_s, h4, h5, hsub]
  by_cases z6 : p - f < 6
  · rw [if_neg (show ¬ (6 : Int32) ≤ nI (p - f) from nI_ge (b := 6) z6 (by decide)), l_64_10, ob_s, pl_64_10, ob_s, g_64_4, ob_s, g_64_5, ob_s, h4, h5, hsub, if_pos z6, hl]
    by_cases z2 : p - f < 2
    · refine ⟨s2 (s2 x 64 7 (10 * x 64 7 + nI c - 48)) 64 4 (nI (p + 1)), ?_, s2_e, by rw [s2_ne (by decide), s2_e, if_pos z2], fun a k h => by rw [s2_ne (by omega), s2_ne (by omega)]⟩
      rw [if_neg (show ¬ (2 : Int32) ≤ nI (p - f) from nI_ge (b := 2) z2 (by decide)), g_64_7, ob_s, p_64_7, ob_s, g_64_4, ob_s, p_64_4, ob_s, s2_ne (by decide), h4, nI_1]
    · refine ⟨s2 x 64 4 (nI (p + 1)), ?_, s2_e, by rw [s2_ne (by decide), if_neg z2], fun a k h => by rw [s2_ne (by omega)]⟩
      rw [if_pos (show (2 : Int32) ≤ nI (p - f) from nI_le (a := 2) (by omega) (by omega)), ob_s, p_64_4, ob_s, nI_1]
  · refine ⟨s2 x 64 4 (nI (p + 1)), ?_, s2_e, by rw [s2_ne (by decide), if_neg (by omega)], fun a k h => by rw [s2_ne (by omega)]⟩
    rw [if_pos (show (6 : Int32) ≤ nI (p - f) from nI_le (a := 6) (by omega) (by omega)), ob_s, ob_s, hsub, if_pos (show (2 : Int32) ≤ nI (p - f) from nI_le (a := 2) (by omega) (by omega)), ob_s, p_64_4, ob_s, nI_1, if_neg z6]
theorem goes_step {x : Nat → Nat → Int32} {w : Int64} {p fu : Nat} {lt g : Bool} (hT : T ≤ 340) (hp : p ≤ 340) (hb : ∀ j, j < T → b j < 256 ∧ I 65 j = nI (b j)) (h4 : x 64 4 = nI p) (h3 : x 64 3 = nI T) : f_X7_goes_177 (fu + 1) 64 (bI lt) (bI g) (MM n x w I L Q D) = if p < T ∧ (isDg (b p) = true ∨ isLt (b p) = true) then tlG fu 64 (bI lt) (bI (g && (isLt (b p) == lt))) (nI (b p)) (MM n x w I L Q D) else exG 64 (bI lt) (bI g) (MM n x w I L Q D) := by
  have ht : f_X7_tapeAt (MM n x w I L Q D) 64 (nI p) = some (nI (if p < T then b p else 0)) := by
    unfold f_X7_tapeAt
    rw [g_64_3, ob_s, h3]
    by_cases z : p < T
    · rw [if_neg (nI_ge z (by omega)), r_64_1, ob_s, a_at (a := 65) (len := 340) rfl (Or.inl rfl) (by omega) (by decide), ob_s, (hb p z).2, if_pos z]
    · rw [if_pos (nI_le (by omega) (by omega)), if_neg z]
      rfl
  have hcc : (if p < T then b p else 0) < 256 := by
    split
    · rename_i z; exact (hb p z).1
    · decide
  have hbi : ∀ c : Bool, bI c = 0 ↔ c = false := fun c => bI_0
  rw [f_X7_goes_177, ob1 g_64_4, h4, o_64, if_pos rfl, ob1 ht, ob1 (m_isLt hcc)]
  by_cases hpT : p < T
  · rw [if_pos hpT] at hcc ⊢
    have hrd : aI (MM n x w I L Q D) 0 65 (nI p) = some (nI (b p)) := by rw [a_at (a := 65) (len := 340) rfl (Or.inl rfl) (by omega) (by decide), (hb p hpT).2]
    by_cases l1 : isLt (b p) = true
    · rw [if_neg (show ¬ bI (isLt (b p)) = 0 by rw [hbi, l1]; decide), ob1 r_64_1, ob1 g_64_4, h4, ob1 hrd, if_pos (show p < T ∧ (isDg (b p) = true ∨ isLt (b p) = true) from ⟨hpT, Or.inr l1⟩)]
      cases g with
      | false =>
        rw [if_pos (show bI false = 0 from rfl)]
        rfl
      | true =>
        rw [if_neg (show ¬ bI true = 0 by decide), ob1 (m_isLt hcc), l1]
        cases lt with
        | false => rw [if_neg (show ¬ bI true = bI false by decide)]; rfl
        | true => rw [if_pos (show bI true = bI true from rfl)]; rfl
    · have l0 : isLt (b p) = false := by simpa using l1
      rw [if_pos (show bI (isLt (b p)) = 0 by rw [hbi, l0]), ob1 g_64_4, h4, if_pos rfl, ob1 ht, if_pos hpT, ob1 (m_isDg hcc)]
      by_cases d1 : isDg (b p) = true
      · rw [if_neg (show ¬ bI (isDg (b p)) = 0 by rw [hbi, d1]; decide), ob1 r_64_1, ob1 g_64_4, h4, ob1 hrd, if_pos (show p < T ∧ (isDg (b p) = true ∨ isLt (b p) = true) from ⟨hpT, Or.inl d1⟩)]
        cases g with
        | false =>
          rw [if_pos (show bI false = 0 from rfl)]
          rfl
        | true =>
          rw [if_neg (show ¬ bI true = 0 by decide), ob1 (m_isLt hcc), l0]
          cases lt with
          | false => rw [if_pos (show bI false = bI false from rfl)]; rfl
          | true => rw [if_neg (show ¬ bI false = bI true by decide)]; rfl
      · have d0 : isDg (b p) = false := by simpa using d1
        rw [if_pos (show bI (isDg (b p)) = 0 by rw [hbi, d0]), if_neg (show ¬ (p < T ∧ (isDg (b p) = true ∨ isLt (b p) = true)) from fun y => y.2.elim d1 l1)]
        rfl
  · rw [if_neg hpT] at hcc ⊢
    rw [if_pos (show bI (isLt 0) = 0 by decide), ob1 g_64_4, h4, if_pos rfl, ob1 ht, if_neg hpT, ob1 (m_isDg hcc), if_pos (show bI (isDg 0) = 0 by decide), if_neg (show ¬ (p < T ∧ (isDg (b p) = true ∨ isLt (b p) = true)) from fun y => hpT y.1)]
    rfl
theorem exG_e {x : Nat → Nat → Int32} {w : Int64} {p f : Nat} {lt g : Bool} (h4 : x 64 4 = nI p) (h5 : x 64 5 = nI f) (hf : f ≤ p) (hp : p < 1000) : exG 64 (bI lt) (bI g) (MM n x w I L Q D) = some (MM n (s2 x 64 6 (nI (if g = false then 1 else if lt = true then 2 else if p - f ≤ 2 then 3 else 1))) w I L Q D) := by
  have hsub : nI p - nI f = nI (p - f) := pk_sub hf
  unfold exG
  cases g with
  | false => rw [if_pos (show bI false = 0 from rfl), p_64_6, ob_s, if_pos rfl]; rfl
  | true =>
    rw [if_neg (show ¬ bI true = 0 by decide), if_neg (show ¬ true = false by decide)]
    cases lt with
    | true => rw [if_neg (show ¬ bI true = 0 by decide), if_neg (show ¬ bI true = 0 by decide), p_64_6, ob_s, if_pos rfl]; rfl
    | false =>
      rw [if_pos (show bI false = 0 from rfl), ob1 g_64_4, ob1 g_64_5, h4, h5, hsub, if_neg (show ¬ false = true by decide)]
      by_cases z : p - f ≤ 2
      · rw [if_pos (show nI (p - f) ≤ 2 from nI_le (b := 2) z (by decide)), if_pos (show bI false = 0 from rfl), p_64_6, ob_s, if_pos z]; rfl
      · rw [if_neg (show ¬ nI (p - f) ≤ 2 from nI_ge (a := 2) (by omega) (by omega)), p_64_6, ob_s, if_neg z]; rfl
theorem goes_l {f : Nat} {lt : Bool} (hT : T ≤ 340) (hb : ∀ j, j < T → b j < 256 ∧ I 65 j = nI (b j)) : ∀ (j p fu : Nat) (g : Bool) (x : Nat → Nat → Int32) (w : Int64), p + j = T → j < fu → f ≤ p → x 64 4 = nI p → x 64 3 = nI T → x 64 5 = nI f →
    ∃ x', f_X7_goes_177 fu 64 (bI lt) (bI g) (MM n x w I L Q D) = some (MM n x' (rnM b f lt j p g (x 64 7) w).2.2.2 I L Q D) ∧ x' 64 6 = nI (if (rnM b f lt j p g (x 64 7) w).2.1 = false then 1 else if lt = true then 2 else if (rnM b f lt j p g (x 64 7) w).1 - f ≤ 2 then 3 else 1) ∧ x' 64 4 = nI (rnM b f lt j p g (x 64 7) w).1 ∧ x' 64 7 = (rnM b f lt j p g (x 64 7) w).2.2.1 ∧ ∀ a k, ¬ (a = 64 ∧ (k = 4 ∨ k = 6 ∨ k = 7)) → x' a k = x a k
  | 0, p, fu, g, x, w, hp, hf, hfp, h4, h3, h5 => by
    obtain ⟨fu, rfl⟩ : ∃ n9, fu = n9 + 1 := ⟨fu - 1, by omega⟩
    rw [goes_step (b := b) hT (by omega) hb h4 h3, if_neg (by omega), exG_e h4 h5 hfp (by omega)]
    exact ⟨_, rfl, s2_e, by rw [s2_ne (by decide), h4]; rfl, s2_ne (by decide), fun a k z => s2_ne (by omega)⟩
  | j + 1, p, fu, g, x, w, hp, hf, hfp, h4, h3, h5 => by
    obtain ⟨fu, rfl⟩ : ∃ n9, fu = n9 + 1 := ⟨fu - 1, by omega⟩
    rw [goes_step (b := b) hT (by omega) hb h4 h3, rnM]
    by_cases z : isDg (b p) = true ∨ isLt (b p) = true
    · rw [if_pos ⟨by omega, z⟩, if_pos z]
      obtain ⟨x1, e1, e2, e3, e4⟩ := tlG_e (n := n) (I := I) (L := L) (Q := Q) (D := D) (w := w) (fu := fu) (c := b p) (v2 := bI lt) (g := bI (g && (isLt (b p) == lt))) h4 h5 hfp (by omega) (hb p (by omega)).1
      obtain ⟨x2, q1, q2, q3, q4, q5⟩ := goes_l (f := f) (lt := lt) hT hb j (p + 1) fu (g && (isLt (b p) == lt)) x1 (if p - f < 6 then 27 * w + lN (b p) - 96 else w) (by omega) (by omega) (by omega) e2 (by rw [e4 _ _ (by omega), h3]) (by rw [e4 _ _ (by omega), h5])
      rw [e3] at q1 q2 q3 q4
      exact ⟨x2, by rw [e1, q1], q2, q3, q4, fun a k y => by rw [q5 a k y, e4 a k (by omega)]⟩
    · rw [if_neg (fun y => z y.2), if_neg z, exG_e h4 h5 hfp (by omega)]
      exact ⟨_, rfl, s2_e, by rw [s2_ne (by decide), h4], s2_ne (by decide), fun a k y => s2_ne (by omega)⟩
def exB (v0 : Nat) (h : Hp) : Option Hp := (gI h v0 7 4).bind fun x3 => (pV h v0 7 5 (.int x3)).bind fun h4 => (gI h4 v0 7 3).bind fun x5 => if x5 ≤ (300 : Int32) then ((gI h4 v0 7 4).bind fun x6 => (gI h4 v0 7 3).bind fun x7 => if x6 < x7 then ((gR h4 v0 7 1).bind fun x8 => (gI h4 v0 7 4).bind fun x9 => (aI h4 0 x8 x9).bind fun x10 => (f_X7_isLetter h4 x10).bind fun x11 => if x11 = 0 then ((f_X7_isDigit h4 x10).bind fun x15 => if x15 = 0 then (if x10 = (59 : Int32) then ((pV h4 v0 7 6 (.int (4 : Int32))).bind fun h22 => (gI h22 v0 7 4).bind fun x23 => (pV h22 v0 7 4 (.int (x23 + (1 : Int32)))).bind fun h24 => some h24) else ((pV h4 v0 7 6 (.int (1 : Int32))).bind fun h19 => (gI h19 v0 7 4).bind fun x20 => (pV h19 v0 7 4 (.int (x20 + (1 : Int32)))).bind fun h21 => some h21)) else ((f_X7_isLetter h4 x10).bind fun x16 => (pV h4 v0 7 10 (.long (0 : Int64))).bind fun h17 => (pV h17 v0 7 7 (.int (0 : Int32))).bind fun h18 => f_X7_goes_177 4096 v0 x16 (1 : Int32) h18)) else ((f_X7_isLetter h4 x10).bind fun x12 => (pV h4 v0 7 10 (.long (0 : Int64))).bind fun h13 => (pV h13 v0 7 7 (.int (0 : Int32))).bind fun h14 => f_X7_goes_177 4096 v0 x12 (1 : Int32) h14)) else ((pV h4 v0 7 6 (.int (0 : Int32))).bind fun h25 => some h25)) else ((gI h4 v0 7 5).bind fun x26 => if x26 < (300 : Int32) then ((gI h4 v0 7 4).bind fun x27 => (gI h4 v0 7 3).bind fun x28 => if x27 < x28 then ((gR h4 v0 7 1).bind fun x29 => (gI h4 v0 7 4).bind fun x30 => (aI h4 0 x29 x30).bind fun x31 => (f_X7_isLetter h4 x31).bind fun x32 => if x32 = 0 then ((f_X7_isDigit h4 x31).bind fun x36 => if x36 = 0 then (if x31 = (59 : Int32) then ((pV h4 v0 7 6 (.int (4 : Int32))).bind fun h43 => (gI h43 v0 7 4).bind fun x44 => (pV h43 v0 7 4 (.int (x44 + (1 : Int32)))).bind fun h45 => some h45) else ((pV h4 v0 7 6 (.int (1 : Int32))).bind fun h40 => (gI h40 v0 7 4).bind fun x41 => (pV h40 v0 7 4 (.int (x41 + (1 : Int32)))).bind fun h42 => some h42)) else ((f_X7_isLetter h4 x31).bind fun x37 => (pV h4 v0 7 10 (.long (0 : Int64))).bind fun h38 => (pV h38 v0 7 7 (.int (0 : Int32))).bind fun h39 => f_X7_goes_177 4096 v0 x37 (1 : Int32) h39)) else ((f_X7_isLetter h4 x31).bind fun x33 => (pV h4 v0 7 10 (.long (0 : Int64))).bind fun h34 => (pV h34 v0 7 7 (.int (0 : Int32))).bind fun h35 => f_X7_goes_177 4096 v0 x33 (1 : Int32) h35)) else ((pV h4 v0 7 6 (.int (0 : Int32))).bind fun h46 => some h46)) else ((pV h4 v0 7 5 (.int (300 : Int32))).bind fun h47 => (pV h47 v0 7 6 (.int (1 : Int32))).bind fun h48 => some h48))
def tkB (h4 : Hp) (v0 : Nat) : Option Hp := (gR h4 v0 7 1).bind fun x8 => (gI h4 v0 7 4).bind fun x9 => (aI h4 0 x8 x9).bind fun x10 => (f_X7_isLetter h4 x10).bind fun x11 => if x11 = 0 then ((f_X7_isDigit h4 x10).bind fun x15 => if x15 = 0 then (if x10 = (59 : Int32) then ((pV h4 v0 7 6 (.int (4 : Int32))).bind fun h22 => (gI h22 v0 7 4).bind fun x23 => (pV h22 v0 7 4 (.int (x23 + (1 : Int32)))).bind fun h24 => some h24) else ((pV h4 v0 7 6 (.int (1 : Int32))).bind fun h19 => (gI h19 v0 7 4).bind fun x20 => (pV h19 v0 7 4 (.int (x20 + (1 : Int32)))).bind fun h21 => some h21)) else ((f_X7_isLetter h4 x10).bind fun x16 => (pV h4 v0 7 10 (.long (0 : Int64))).bind fun h17 => (pV h17 v0 7 7 (.int (0 : Int32))).bind fun h18 => f_X7_goes_177 4096 v0 x16 (1 : Int32) h18)) else ((f_X7_isLetter h4 x10).bind fun x12 => (pV h4 v0 7 10 (.long (0 : Int64))).bind fun h13 => (pV h13 v0 7 7 (.int (0 : Int32))).bind fun h14 => f_X7_goes_177 4096 v0 x12 (1 : Int32) h14)
/-- what the model's reader holds of a token -/
def TkM (b : Nat → Nat) (x : Nat → Nat → Int32) (w : Int64) (t : Nat × Nat × Nat × Int32) : Prop := x 64 6 = nI (srt t.1) ∧ x 64 5 = nI t.2.1 ∧ (t.1 ≠ 4 → x 64 4 = nI t.2.2.1) ∧ (t.1 = 2 → x 64 7 = t.2.2.2) ∧ (t.1 = 1 → w = lN (cdB b t.2.1 (min (t.2.2.1 - t.2.1) 6)) ∧ ∀ i, i < t.2.2.1 - t.2.1 → isLt (b (t.2.1 + i)) = true)
theorem sort_kd {l d e f : Nat} {lt g : Bool} (h1 : l + d + f = e) (h2 : lt = true → g = decide (d = 0)) (h3 : lt = false → g = decide (l = 0)) (h4 : lt = true → 0 < l) (h5 : lt = false → 0 < d) : (if g = false then 1 else if lt = true then 2 else if e - f ≤ 2 then 3 else 1) = srt (kdN l d) := by
  cases lt with
  | true =>
    have := h4 rfl
    by_cases z : d = 0
    · have hk : kdN l d = 1 := by unfold kdN; rw [if_pos ⟨this, z⟩]
      rw [h2 rfl, hk, decide_eq_true z, if_neg (by decide), if_pos rfl]; rfl
    · have hk : kdN l d = 4 := by unfold kdN; rw [if_neg (fun y => z y.2), if_neg (by omega)]
      rw [h2 rfl, hk, decide_eq_false z, if_pos rfl]; rfl
  | false =>
    have := h5 rfl
    by_cases z : l = 0
    · rw [h3 rfl, decide_eq_true z, if_neg (by decide), if_neg (by decide)]
      by_cases y : e - f ≤ 2
      · have hk : kdN l d = 2 := by unfold kdN; rw [if_neg (by omega), if_pos ⟨z, by omega⟩]
        rw [if_pos y, hk]; rfl
      · have hk : kdN l d = 4 := by unfold kdN; rw [if_neg (by omega), if_neg (by omega)]
        rw [if_neg y, hk]; rfl
    · have hk : kdN l d = 4 := by unfold kdN; rw [if_neg (by omega), if_neg (fun y => z y.1)]
      rw [h3 rfl, hk, decide_eq_false z, if_pos rfl]; rfl
theorem rnC_mono (b : Nat → Nat) : ∀ j p l d v, l ≤ (rnC b j p l d v).2.1 ∧ d ≤ (rnC b j p l d v).2.2.1
  | 0, p, l, d, v => ⟨Nat.le_refl _, Nat.le_refl _⟩
  | j + 1, p, l, d, v => by
    rw [rnC]
    split
    · have := rnC_mono b j (p + 1) l (d + 1) (v * 10 + nI (b p) - 48); omega
    · split
      · have := rnC_mono b j (p + 1) (l + 1) d v; omega
      · exact ⟨Nat.le_refl _, Nat.le_refl _⟩
theorem rInv_0 {b : Nat → Nat} {f : Nat} {lt : Bool} : rInv b f lt f 0 0 0 true 0 0 := ⟨by omega, fun _ => rfl, fun _ => rfl, fun _ _ => rfl, fun _ => ⟨rfl, fun i hi => absurd hi (Nat.not_lt_zero i)⟩⟩
/-- the run behind the first letter or digit -/
theorem tk_run {x : Nat → Nat → Int32} {p : Nat} (hT : T ≤ 340) (hpT : p < T) (hb : ∀ j, j < T → b j < 256 ∧ I 65 j = nI (b j)) (h4 : x 64 4 = nI p) (h3 : x 64 3 = nI T) (h5 : x 64 5 = nI p) (h7 : x 64 7 = 0) (hl : isDg (b p) = true ∨ isLt (b p) = true) : ∃ x' w', f_X7_goes_177 4096 64 (bI (isLt (b p))) 1 (MM n x 0 I L Q D) = some (MM n x' w' I L Q D) ∧ TkM b x' w' (kdN (rnC b (T - p) p 0 0 0).2.1 (rnC b (T - p) p 0 0 0).2.2.1, p, (rnC b (T - p) p 0 0 0).1, (rnC b (T - p) p 0 0 0).2.2.2) ∧ ∀ a k, ¬ (a = 64 ∧ 4 ≤ k ∧ k ≤ 7) → x' a k = x a k := by
  obtain ⟨x', q1, q2, q3, q4, q5⟩ := goes_l (n := n) (L := L) (Q := Q) (D := D) (f := p) (lt := isLt (b p)) hT hb (T - p) p 4096 true x 0 (by omega) (by omega) (Nat.le_refl _) h4 h3 h5
  obtain ⟨r1, r2⟩ := rn_rel (b := b) (f := p) (lt := isLt (b p)) (T - p) p 0 0 0 true 0 0 rInv_0
  rw [h7] at q1 q2 q3 q4
  rw [r1] at q2 q3
  have hmono : (isLt (b p) = true → 0 < (rnC b (T - p) p 0 0 0).2.1) ∧ (isLt (b p) = false → 0 < (rnC b (T - p) p 0 0 0).2.2.1) := by
    obtain ⟨j, hj⟩ : ∃ j, T - p = j + 1 := ⟨T - p - 1, by omega⟩
    rw [hj, rnC]
    constructor
    · intro z
      rw [if_neg (fun y => by rw [dg_lt_no y] at z; cases z), if_pos z]
      have := rnC_mono b j (p + 1) (0 + 1) 0 0; omega
    · intro z
      have d1 : isDg (b p) = true := hl.resolve_right (by rw [z]; decide)
      rw [if_pos d1]
      have := rnC_mono b j (p + 1) 0 (0 + 1) (0 * 10 + nI (b p) - 48); omega
  obtain ⟨i1, i2, i3, i4, i5⟩ := r2
  refine ⟨x', _, q1, ⟨?_, ?_, fun _ => q3, fun hk => ?_, fun hk => ?_⟩, fun a k z => q5 a k (by omega)⟩
  · rw [q2, sort_kd i1 i2 i3 hmono.1 hmono.2]
  · rw [q5 64 5 (by omega), h5]
  · have hk : kdN (rnC b (T - p) p 0 0 0).2.1 (rnC b (T - p) p 0 0 0).2.2.1 = 2 := hk
    unfold kdN at hk
    rw [q4]
    split at hk
    · omega
    · split at hk
      · rename_i z; exact i4 z.1 (by omega)
      · omega
  · have hk : kdN (rnC b (T - p) p 0 0 0).2.1 (rnC b (T - p) p 0 0 0).2.2.1 = 1 := hk
    have hz : (rnC b (T - p) p 0 0 0).2.2.1 = 0 := by
      unfold kdN at hk
      split at hk
      · rename_i z; exact z.2
      · split at hk <;> omega
    obtain ⟨w1, w2⟩ := i5 hz
    show _ = lN (cdB b p (min ((rnC b (T - p) p 0 0 0).1 - p) 6)) ∧ ∀ i, i < (rnC b (T - p) p 0 0 0).1 - p → isLt (b (p + i)) = true
    rw [show (rnC b (T - p) p 0 0 0).1 - p = (rnC b (T - p) p 0 0 0).2.1 by omega]
    exact ⟨w1, w2⟩
theorem tkB_e {x : Nat → Nat → Int32} {w : Int64} {p : Nat} (hT : T ≤ 340) (hpT : p < T) (hb : ∀ j, j < T → b j < 256 ∧ I 65 j = nI (b j)) (h4 : x 64 4 = nI p) (h3 : x 64 3 = nI T) (h5 : x 64 5 = nI p) : ∃ x' w', tkB (MM n x w I L Q D) 64 = some (MM n x' w' I L Q D) ∧ TkM b x' w' (if b p = 59 then (3, p, p + 1, 0) else (kdN (rnC b (T - p) p 0 0 0).2.1 (rnC b (T - p) p 0 0 0).2.2.1, p, (rnC b (T - p) p 0 0 0).1, (rnC b (T - p) p 0 0 0).2.2.2)) ∧ ∀ a k, ¬ (a = 64 ∧ 4 ≤ k ∧ k ≤ 7) → x' a k = x a k := by
  have hc := (hb p hpT).1
  have hrd : aI (MM n x w I L Q D) 0 65 (nI p) = some (nI (b p)) := by rw [a_at (a := 65) (len := 340) rfl (Or.inl rfl) (by omega) (by decide), (hb p hpT).2]
  unfold tkB
  rw [ob1 r_64_1, ob1 g_64_4, h4, ob1 hrd, ob1 (m_isLt hc)]
  by_cases l1 : isLt (b p) = true
  · have n59 : b p ≠ 59 := fun z => by rw [z] at l1; revert l1; decide
    rw [if_neg (show ¬ bI (isLt (b p)) = 0 by rw [bI_0, l1]; decide), ob1 (m_isLt hc), ob1 pl_64_10, ob1 p_64_7, if_neg n59]
    obtain ⟨x', w', e1, e2, e3⟩ := tk_run (n := n) (L := L) (Q := Q) (D := D) (x := s2 x 64 7 0) hT hpT hb (by rw [s2_ne (by decide), h4]) (by rw [s2_ne (by decide), h3]) (by rw [s2_ne (by decide), h5]) s2_e (Or.inr l1)
    exact ⟨x', w', e1, e2, fun a k z => by rw [e3 a k z, s2_ne (by omega)]⟩
  · have l0 : isLt (b p) = false := by simpa using l1
    rw [if_pos (show bI (isLt (b p)) = 0 by rw [bI_0, l0]), ob1 (m_isDg hc)]
    by_cases d1 : isDg (b p) = true
    · have n59 : b p ≠ 59 := fun z => by rw [z] at d1; revert d1; decide
      rw [if_neg (show ¬ bI (isDg (b p)) = 0 by rw [bI_0, d1]; decide), ob1 (m_isLt hc), ob1 pl_64_10, ob1 p_64_7, if_neg n59]
      obtain ⟨x', w', e1, e2, e3⟩ := tk_run (n := n) (L := L) (Q := Q) (D := D) (x := s2 x 64 7 0) hT hpT hb (by rw [s2_ne (by decide), h4]) (by rw [s2_ne (by decide), h3]) (by rw [s2_ne (by decide), h5]) s2_e (Or.inl d1)
      exact ⟨x', w', e1, e2, fun a k z => by rw [e3 a k z, s2_ne (by omega)]⟩
    · have d0 : isDg (b p) = false := by simpa using d1
      rw [if_pos (show bI (isDg (b p)) = 0 by rw [bI_0, d0])]
      by_cases z : b p = 59
      · rw [if_pos (show nI (b p) = 59 by rw [z]; rfl), if_pos z]
        refine ⟨s2 (s2 x 64 6 4) 64 4 (nI (p + 1)), w, by rw [ob1 p_64_6, ob1 g_64_4, ob1 p_64_4, s2_ne (by decide), h4, nI_1], ⟨by rw [s2_ne (by decide), s2_e]; rfl, by rw [s2_ne (by decide), s2_ne (by decide), h5], fun _ => s2_e, fun h => (by cases h), fun h => (by cases h)⟩, fun a k y => by rw [s2_ne (by omega), s2_ne (by omega)]⟩
      · have hk : rnC b (T - p) p 0 0 0 = (p, 0, 0, 0) := by
          obtain ⟨j, hj⟩ : ∃ j, T - p = j + 1 := ⟨T - p - 1, by omega⟩
          rw [hj, rnC, if_neg d1, if_neg l1]
        rw [if_neg (show ¬ nI (b p) = 59 from fun y => z ((nI_eq (b := 59) (by omega) (by decide)).mp y)), if_neg z, hk]
        refine ⟨s2 (s2 x 64 6 1) 64 4 (nI (p + 1)), w, by rw [ob1 p_64_6, ob1 g_64_4, ob1 p_64_4, s2_ne (by decide), h4, nI_1], ⟨by rw [s2_ne (by decide), s2_e]; rfl, by rw [s2_ne (by decide), s2_ne (by decide), h5], fun h => absurd rfl h, fun h => (by cases h), fun h => (by cases h)⟩, fun a k y => by rw [s2_ne (by omega), s2_ne (by omega)]⟩
theorem exB_e {x : Nat → Nat → Int32} {w : Int64} {p : Nat} (hT : T ≤ 340) (hp : p ≤ 340) (hb : ∀ j, j < T → b j < 256 ∧ I 65 j = nI (b j)) (h4 : x 64 4 = nI p) (h3 : x 64 3 = nI T) : ∃ x' w', exB 64 (MM n x w I L Q D) = some (MM n x' w' I L Q D) ∧ TkM b x' w' (tkAt b T p) ∧ ∀ a k, ¬ (a = 64 ∧ 4 ≤ k ∧ k ≤ 7) → x' a k = x a k := by
  have e3 : (s2 x 64 5 (nI p)) 64 3 = nI T := by rw [s2_ne (by decide), h3]
  have e4 : (s2 x 64 5 (nI p)) 64 4 = nI p := by rw [s2_ne (by decide), h4]
  have tok : p < T → ∃ x' w', tkB (MM n (s2 x 64 5 (nI p)) w I L Q D) 64 = some (MM n x' w' I L Q D) ∧ TkM b x' w' (if b p = 59 then (3, p, p + 1, 0) else (kdN (rnC b (T - p) p 0 0 0).2.1 (rnC b (T - p) p 0 0 0).2.2.1, p, (rnC b (T - p) p 0 0 0).1, (rnC b (T - p) p 0 0 0).2.2.2)) ∧ ∀ a k, ¬ (a = 64 ∧ 4 ≤ k ∧ k ≤ 7) → x' a k = x a k := fun hpT => by
    obtain ⟨x', w', q1, q2, q3⟩ := tkB_e (n := n) (L := L) (Q := Q) (D := D) (w := w) hT hpT hb e4 e3 s2_e
    exact ⟨x', w', q1, q2, fun a k z => by rw [q3 a k z, s2_ne (by omega)]⟩
  unfold exB tkAt
  rw [ob1 g_64_4, h4, ob1 p_64_5, ob1 g_64_3, e3]
  by_cases h30 : T ≤ 300
  · rw [if_pos (show nI T ≤ 300 from nI_le (b := 300) h30 (by decide)), if_neg (show ¬ (300 < T ∧ 300 ≤ p) by omega), ob1 g_64_4, e4, ob1 g_64_3, e3]
    by_cases hpT : p < T
    · rw [if_pos (nI_lt hpT (by omega)), if_neg (show ¬ T ≤ p by omega)]
      exact tok hpT
    · rw [if_neg (nI_nlt (by omega) (by omega)), if_pos (show T ≤ p by omega)]
      exact ⟨_, w, by rw [ob1 p_64_6], ⟨by rw [s2_e]; rfl, by rw [s2_ne (by decide), s2_e], fun _ => by rw [s2_ne (by decide), e4], fun h => (by cases h), fun h => (by cases h)⟩, fun a k h => by rw [s2_ne (by omega), s2_ne (by omega)]⟩
  · rw [if_neg (show ¬ nI T ≤ 300 from nI_ge (a := 300) (by omega) (by omega)), ob1 g_64_5, s2_e]
    by_cases hp3 : p < 300
    · rw [if_pos (show nI p < 300 from nI_lt (b := 300) hp3 (by decide)), if_neg (show ¬ (300 < T ∧ 300 ≤ p) by omega), ob1 g_64_4, e4, ob1 g_64_3, e3]
      rw [if_pos (nI_lt (show p < T by omega) (by omega)), if_neg (show ¬ T ≤ p by omega)]
      exact tok (by omega)
    · rw [if_neg (show ¬ nI p < 300 from nI_nlt (b := 300) (by omega) (by omega)), if_pos (show 300 < T ∧ 300 ≤ p by omega)]
      exact ⟨_, w, by rw [ob1 p_64_5, ob1 p_64_6], ⟨by rw [s2_e]; rfl, by rw [s2_ne (by decide), s2_e]; rfl, fun h => absurd rfl h, fun h => (by cases h), fun h => (by cases h)⟩, fun a k h => by rw [s2_ne (by omega), s2_ne (by omega), s2_ne (by omega)]⟩
theorem gst_step {x : Nat → Nat → Int32} {w : Int64} {p fu : Nat} (hT : T ≤ 340) (hp : p ≤ 340) (hb : ∀ j, j < T → b j < 256 ∧ I 65 j = nI (b j)) (h4 : x 64 4 = nI p) (h3 : x 64 3 = nI T) : f_X7_goes_0 (fu + 1) 64 (MM n x w I L Q D) = if p < T ∧ isSp (b p) = true then f_X7_goes_0 fu 64 (MM n (s2 x 64 4 (nI (p + 1))) w I L Q D) else exB 64 (MM n x w I L Q D) := by
  rw [f_X7_goes_0, ob1 g_64_4, h4, ob1 g_64_3, h3]
  by_cases hpT : p < T
  · have hrd : aI (MM n x w I L Q D) 0 65 (nI p) = some (nI (b p)) := by rw [a_at (a := 65) (len := 340) rfl (Or.inl rfl) (by omega) (by decide), (hb p hpT).2]
    have hc := (hb p hpT).1
    rw [if_neg (nI_ge hpT (by omega)), ob1 r_64_1, ob1 g_64_4, h4, ob1 hrd]
    by_cases z : b p = 32
    · rw [if_pos (show nI (b p) = 32 by rw [z]; rfl), if_pos ⟨hpT, by unfold isSp; simp [z]⟩, ob1 g_64_4, h4, ob1 p_64_4, nI_1]
    · rw [if_neg (show ¬ nI (b p) = 32 from fun y => z ((nI_eq (b := 32) (by omega) (by decide)).mp y)), ob1 r_64_1, ob1 g_64_4, h4, ob1 hrd]
      by_cases y : b p = 10
      · rw [if_pos (show nI (b p) = 10 by rw [y]; rfl), if_pos ⟨hpT, by unfold isSp; simp [y]⟩, ob1 g_64_4, h4, ob1 p_64_4, nI_1]
      · rw [if_neg (show ¬ nI (b p) = 10 from fun q => y ((nI_eq (b := 10) (by omega) (by decide)).mp q)), if_neg (fun q => by have := q.2; unfold isSp at this; simp at this; omega)]
        rfl
  · rw [if_pos (nI_le (by omega) (by omega)), if_neg (fun q => hpT q.1)]
    rfl
theorem m_goes_l (hT : T ≤ 340) (hb : ∀ j, j < T → b j < 256 ∧ I 65 j = nI (b j)) : ∀ (j p fu : Nat) (x : Nat → Nat → Int32) (w : Int64), p + j = T → j < fu → x 64 4 = nI p → x 64 3 = nI T → ∃ x' w', f_X7_goes_0 fu 64 (MM n x w I L Q D) = some (MM n x' w' I L Q D) ∧ TkM b x' w' (tkAt b T (skN b j p)) ∧ ∀ a k, ¬ (a = 64 ∧ 4 ≤ k ∧ k ≤ 7) → x' a k = x a k
  | 0, p, fu, x, w, hp, hf, h4, h3 => by
    obtain ⟨fu, rfl⟩ : ∃ n9, fu = n9 + 1 := ⟨fu - 1, by omega⟩
    rw [gst_step (b := b) hT (by omega) hb h4 h3, if_neg (by omega), skN]
    exact exB_e hT (by omega) hb h4 h3
  | j + 1, p, fu, x, w, hp, hf, h4, h3 => by
    obtain ⟨fu, rfl⟩ : ∃ n9, fu = n9 + 1 := ⟨fu - 1, by omega⟩
    rw [gst_step (b := b) hT (by omega) hb h4 h3, skN]
    by_cases z : isSp (b p) = true
    · rw [if_pos ⟨by omega, z⟩, if_pos z]
      obtain ⟨x', w', e1, e2, e3⟩ := m_goes_l hT hb j (p + 1) fu (s2 x 64 4 (nI (p + 1))) w (by omega) (by omega) s2_e (by rw [s2_ne (by decide), h3])
      exact ⟨x', w', e1, e2, fun a k h => by rw [e3 a k h, s2_ne (by omega)]⟩
    · rw [if_neg (fun q => z q.2), if_neg z]
      exact exB_e hT (by omega) hb h4 h3
theorem m_goes {x : Nat → Nat → Int32} {w : Int64} {p : Nat} (hT : T ≤ 340) (hp : p ≤ T) (hb : ∀ j, j < T → b j < 256 ∧ I 65 j = nI (b j)) (h4 : x 64 4 = nI p) (h3 : x 64 3 = nI T) : ∃ x' w', f_X7_goes (MM n x w I L Q D) 64 = some (MM n x' w' I L Q D) ∧ TkM b x' w' (tkAt b T (skN b (T - p) p)) ∧ ∀ a k, ¬ (a = 64 ∧ 4 ≤ k ∧ k ≤ 7) → x' a k = x a k := m_goes_l hT hb (T - p) p 4096 x w (by omega) (by omega) h4 h3
end LEXM
