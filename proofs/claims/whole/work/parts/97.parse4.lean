/-! the class's reader, its frame -/
def pTxt (b : Nat → Nat) (T : Nat) : (Nat × Nat) ⊕ (Nat × Fm) := pAll b T (T + 1) 0 (0, 0, 0, fun _ => 0) (nxT b T (0, 0, 0, 0))
theorem fit_by : ∀ c, c < 256 → fits (akT 1) (.int (byN c)) = true := by decide +kernel
section CREAD
variable {n : Nat} {x : Nat → Nat → Int32} {w : Int64} {I : Nat → Nat → Int32} {L : Nat → Nat → Int64} {Q : Nat → Nat → Option Nat} {D : Nat → Bool} {b : Nat → Nat} {T : Nat}
theorem c_copyT (hT : T ≤ 340) (hb : ∀ j, j < T → b j < 256 ∧ I 1 j = byN (b j)) : ∃ I', cpA (MM n x w I L Q D) 1 1 0 5 0 (nI T) = some (MM n x w I' L Q D) ∧ (∀ j, j < T → I' 5 j = I 1 j) ∧ ∀ a, a ≠ 5 → I' a = I a := by
  refine ⟨u1 I 5 (va_cpy (I 1) (I 5) 0 0 T), ?_, fun j hj => ?_, fun a ha => u1_n ha⟩
  · unfold cpA
    rw [show (MM n x w I L Q D).2 1 = some (.inl (1, 340, .inl (I 1))) from rfl, show (MM n x w I L Q D).2 5 = some (.inl (1, 340, .inl (I 5))) from rfl]
    show (if _ then _ else _) = _
    have h0 : (0 : Int32).toNatClampNeg = 0 := rfl
    rw [nI_clamp (by omega), h0, if_pos ⟨⟨rfl, rfl⟩, ⟨by decide, by decide, nI_pos (by omega)⟩, by omega, by omega, fun i hi => by rw [Nat.zero_add, (hb i hi).2]; exact fit_by _ (hb i hi).1⟩]
    exact congrArg some (hs_I rfl)
  · rw [u1_e, pk_cpy_in (by omega) (by omega), show 0 + (j - 0) = j by omega]
theorem c_read (hT : T ≤ 340) (hb : ∀ j, j < T → b j < 256 ∧ I 1 j = byN (b j)) : ∃ v x' I', f_X5_read (MM n x w I L Q D) 2 1 (nI T) = some (v, MM n x' w I' L Q D) ∧ (∀ a, a ≠ 2 → a ≠ 3 → x' a = x a) ∧ (∀ a, a ≠ 4 → a ≠ 5 → I' a = I a) ∧ CAll b T (pTxt b T) v x' I' := by
  obtain ⟨I1, e1, e2, e3⟩ := c_copyT (n := n) (x := s2 x 2 2 (nI T)) (w := w) (L := L) (Q := Q) (D := D) hT hb
  obtain ⟨x2, I2, b1, b2, b3⟩ := c_begin (n := n) (x := s2 (s2 (s2 x 2 2 (nI T)) 2 5 0) 2 8 0) (w := w) (I := I1) (L := L) (Q := Q) (D := D) (v0 := 0) (v1 := 0) (v2 := 0) (isF3 (D := D))
  have h2 : ∀ k, x2 2 k = (s2 (s2 (s2 x 2 2 (nI T)) 2 5 0) 2 8 0) 2 k := fun k => by rw [b2, if_neg (by omega)]
  have hb2 : ∀ j, j < T → b j < 256 ∧ I2 5 j = byN (b j) := fun j hj => ⟨(hb j hj).1, by rw [b3, if_neg (by omega), e2 j hj]; exact (hb j hj).2⟩
  obtain ⟨x3, d1, d2, d3⟩ := c_adv (n := n) (x := x2) (w := w) (I := I2) (L := L) (Q := Q) (D := D) (b := b) (p := 0) hT (Nat.zero_le _) hb2 (by rw [h2, s2_ne (by decide), s2_e]; rfl) (by rw [h2, s2_ne (by decide), s2_ne (by decide), s2_e])
  have ok := nxT_ok (b := b) (T := T) (t := (0, 0, 0, 0)) (Nat.zero_le _)
  have hcp : CP b T (0, 0, 0, fun _ => 0) (nxT b T (0, 0, 0, 0)) x3 I2 := by
    refine ⟨by rw [d3 2 2 (by omega), h2, s2_ne (by decide), s2_ne (by decide), s2_e], by rw [d3 2 8 (by omega), h2, s2_e], hT, hb2, d2, ok.1, ⟨?_, ?_, ?_, fun d hd => ?_⟩, ?_⟩
    · rw [d3 3 0 (by omega), b2]; rfl
    · rw [d3 3 1 (by omega), b2]; rfl
    · rw [d3 3 2 (by omega), b2]; rfl
    · rw [b3, if_pos ⟨rfl, hd⟩]; rfl
    · exact ⟨(show 0 ≤ 18 by decide), Nat.two_pow_pos _, (show 0 < 2 ^ 15 by decide), (show pc 0 ≤ 9 by decide), fun d _ => Or.inl rfl, fun d e _ _ _ h0 => absurd rfl h0⟩
  have hall := c_all (n := n) (w := w) (L := L) (Q := Q) (D := D) (T + 1) 4096 0 (0, 0, 0, fun _ => 0) (nxT b T (0, 0, 0, 0)) x3 I2 hcp (by omega) (by omega) (fun _ => ⟨by omega, by omega⟩) (by omega)
  unfold pTxt
  generalize pAll b T (T + 1) 0 (0, 0, 0, fun _ => 0) (nxT b T (0, 0, 0, 0)) = R at hall ⊢
  obtain ⟨v, x4, I4, f1, f2, f3, f4⟩ := hall
  refine ⟨v, x4, I4, ?_, fun a k1 k2 => ?_, fun a k1 k2 => ?_, f4⟩
  · unfold f_X5_read
    rw [show aN (MM n x w I L Q D) 1 = some 340 from rfl, ob_s, if_neg (show ¬ (340 : Int32) < 340 by decide), if_neg (show ¬ (340 : Int32) < nI T from nI_nlt (a := 340) (by omega) (by decide)), p_2_2, ob_s, r_2_1, ob_s, g_2_2, ob_s, s2_e, e1, ob_s, p_2_5, ob_s, p_2_8, ob_s, r_2_0, ob_s, o_3, if_pos tT1, b1, ob_s, o_2, if_pos tT1, d1, ob_s]
    exact f1
  · rw [f2 a k1 k2]
    refine funext fun k => ?_
    rw [d3 a k (fun z => k1 z.1), b2, if_neg (fun z => k2 z.1), s2_ne (by omega), s2_ne (by omega), s2_ne (by omega)]
  · rw [f3 a k1]
    refine Eq.trans (funext fun k => ?_) (e3 a k2)
    rw [b3, if_neg (by omega)]
end CREAD
/-- another latest fault -/
def flt (S : St) (v : Int32) : St := (tL S, tB S, v, S.2.2.2)
theorem CI.fault {PC : PCt} (hP : PCok PC) {n : Nat} {x I x' I' : Nat → Nat → Int32} {L : Nat → Nat → Int64} {Q : Nat → Nat → Option Nat} {D : Nat → Bool} {S : St} {v : Int32} (k : CI PC n x I L Q D S) (h1 : x' 0 1 = x 0 1) (h3 : x' 0 3 = v) (hx : ∀ a, a ≠ 0 → a ≠ 2 → a ≠ 3 → x' a = x a) (hI : ∀ a, a ≠ 4 → a ≠ 5 → I' a = I a) : CI PC n x' I' L Q D (flt S v) := by
  obtain ⟨k1, k2, k3, k4, k5, k6, k7, k8, k9⟩ := k
  have g : ∀ a, a = 6 ∨ a = 10 ∨ a = 14 ∨ a = 60 ∨ 81 ≤ a → x' a = x a := fun a ha => hx a (by omega) (by omega) (by omega)
  have g2 : ∀ a, a = 1 ∨ a = 7 ∨ a = 61 ∨ a = 62 ∨ 81 ≤ a → I' a = I a := fun a ha => hI a (by omega) (by omega)
  refine ⟨k1, k2, ?_, h3, ?_, ?_, ?_, ?_, hP.2 _ _ _ _ _ _ _ (g 14 (by omega)) (fun a h1 h2 => hI a (by omega) (by omega)) rfl rfl k9⟩
  · rw [h1, g2 1 (by omega)]; exact k3
  · exact ⟨k5.1, k5.2.same (g 6 (by omega)) (g2 7 (by omega))⟩
  · rw [g 10 (by omega)]
    obtain ⟨e1, e2, t, e3, e4, e5⟩ := k6
    refine ⟨e1, e2, t, e3, e4, fun k hk => ?_⟩
    obtain ⟨e6, a, e7, e8⟩ := e5 k hk
    have := k2.ring (Nat.mod_lt _ (by decide)) e7
    exact ⟨e6, a, e7, e8.same (g a (by have := this.1; omega)) (g2 _ (by have := this.1; omega))⟩
  · intro k hk
    have e := k7 k hk
    show (match iM S k with | none => _ | some G => _)
    cases hi : iM S k with
    | none => rw [hi] at e; exact e
    | some G =>
      rw [hi] at e
      obtain ⟨e6, a, e7, e8⟩ := e
      have := k2.img hk e7
      exact ⟨e6, a, e7, e8.same (g a (by have := this.1; omega)) (g2 _ (by have := this.1; omega))⟩
  · refine ⟨k8.1, ?_⟩
    unfold LKC at *
    rw [g 60 (by omega), g2 61 (by omega), g2 62 (by omega)]
    exact k8.2
/-- the answer, the state behind it -/
def frA (R : (Nat × Nat) ⊕ (Nat × Fm)) : Int32 := match R with
  | .inl e => -1 - nI e.2
  | .inr q => nI q.1
def frN (R : (Nat × Nat) ⊕ (Nat × Fm)) (S : St) : St := match R with
  | .inl e => flt (tape0 S) (nI e.1)
  | .inr q => resS (flt (tape0 S) 0) q.2
/-- faults have a number -/
def flK (R : (Nat × Nat) ⊕ (Nat × Fm)) : Prop := match R with
  | .inl e => 1 ≤ e.1 ∧ e.1 ≤ 4
  | .inr _ => True
theorem c_frame {PC : PCt} (hP : PCok PC) {n : Nat} {x : Nat → Nat → Int32} {w : Int64} {I : Nat → Nat → Int32} {L : Nat → Nat → Int64} {Q : Nat → Nat → Option Nat} {D : Nat → Bool} {S : St} (hk : flK (pTxt (tB S) (tL S))) (hc : CI PC n x I L Q D S) : ∃ x' I', f_X6_frame (MM n x w I L Q D) 0 = some (frA (pTxt (tB S) (tL S)), MM n x' w I' L Q D) ∧ CI PC n x' I' L Q D (frN (pTxt (tB S) (tL S)) S) ∧ SM x I x' I' := by
  have h0 : CI PC n (s2 x 0 1 0) I L Q D (tape0 S) := hc.tape hP (t := 0) (by omega) (fun _ _ => rfl) (fun j hj => absurd hj (Nat.not_lt_zero j))
  have hr := c_read (n := n) (x := s2 x 0 1 0) (w := w) (L := L) (Q := Q) (D := D) (b := tB S) (T := tL S) hc.2.2.1.1 hc.2.2.1.2.2
  unfold f_X6_frame
  rw [g_0_1, ob_s, hc.2.2.1.2.1, p_0_1, ob_s, r_0_2, ob_s, r_0_0, ob_s, o_2, if_pos tT1]
  generalize pTxt (tB S) (tL S) = R at hr hk ⊢
  obtain ⟨v, x1, I1, e1, e2, e3, e4⟩ := hr
  rw [e1, ob_s]
  dsimp only
  rw [r_0_2, ob_s, g_2_8, ob_s, p_0_3, ob_s, r_0_2, ob_s, g_2_8, ob_s, s2_ne (by decide)]
  have h1 : CI PC n (s2 x1 0 3 (x1 2 8)) I1 L Q D (flt (tape0 S) (x1 2 8)) := h0.fault hP (by rw [s2_ne (by decide), e2 0 (by decide) (by decide)]) s2_e (fun a k1 k2 k3 => by rw [s2_row k1, e2 a k2 k3]) e3
  have hsm : SM x I (s2 x1 0 3 (x1 2 8)) I1 := SM.of (fun a k1 k2 => by rw [s2_row (by omega), e2 a (by omega) (by omega), s2_row (by omega)]) (fun a k1 k2 => e3 a (by omega) (by omega))
  cases R with
  | inl e =>
    obtain ⟨rfl, e5⟩ := e4
    have hk : 1 ≤ e.1 ∧ e.1 ≤ 4 := hk
    rw [if_neg (by rw [e5]; exact nI_ne0 (by omega) (by omega))]
    refine ⟨_, I1, rfl, ?_, hsm⟩
    rw [e5] at h1 ⊢
    exact h1
  | inr q =>
    obtain ⟨rfl, e5, e6, e7⟩ := e4
    rw [if_pos e5, ob_s, r_2_0, ob_s, o_0, if_pos tT1]
    rw [e5] at h1 hsm ⊢
    obtain ⟨x2, I2, c1, c2, c3⟩ := c_becomes (w := w) hP h1 (isF3 (D := D)) (e6.same (s2_row (by decide)) rfl) e7
    rw [c1, ob_s]
    exact ⟨x2, I2, rfl, c2, fun a k1 k2 => ⟨by rw [(c3 a k1 k2).1, (hsm a k1 k2).1], by rw [(c3 a k1 k2).2, (hsm a k1 k2).2]⟩⟩
