/-! drawn -/
def nxt (s : Int32) : Int32 := s * 1103515245 + 12345
def dv (s : Int32) (m : Nat) : Nat := (s.toBitVec.toNat / 256) % m
theorem ofI (z : Int32) : z = nI z.toBitVec.toNat := by
  apply Int32.toBitVec_inj.mp
  show z.toBitVec = BitVec.ofNat 32 z.toBitVec.toNat
  rw [BitVec.ofNat_toNat, BitVec.setWidth_eq]
theorem dv_lt {s : Int32} {m : Nat} (h : 1 ≤ m) : dv s m < m := Nat.mod_lt _ h
theorem ush8 (z : Int32) : ushr z 8 = nI (z.toBitVec.toNat / 256) := by
  have h := z.toBitVec.isLt
  unfold ushr
  conv => lhs; rw [ofI z]
  exact pk_ushrN h _ 8 (by decide)
theorem dvI {s : Int32} {m : Nat} (h1 : 1 ≤ m) (h2 : m < 2 ^ 31) : ushr s 8 - ushr s 8 / nI m * nI m = nI (dv s m) := by
  have h := s.toBitVec.isLt
  rw [ush8, pk_rem (by omega) h1 h2]
  rfl
/-- the deeds: a hole at a place (one less), a pair (one less), a pin -/
def dH (F : Fm) (p : Nat) : Bool × Fm := if (pinM F.2.2.2 0 15).testBit p = true then (false, F) else (true, F.1, F.2.1 ^^^ 2 ^ p, F.2.2)
def dP (F : Fm) (d : Nat) : Bool × Fm := if okPb F.2.2.1 (d + 1) (!F.2.2.1.testBit d) = true then (true, F.1, F.2.1, F.2.2.1 ^^^ 2 ^ d, updN F.2.2.2 (d + 1) 0) else (false, F)
def dN (F : Fm) (d p : Nat) : Bool × Fm := if F.2.2.2 d ≠ 0 then (true, F.1, F.2.1, F.2.2.1, updN F.2.2.2 d 0) else if pinA F.1 F.2.1 F.2.2.1 F.2.2.2 d p = 0 then (true, F.1, F.2.1, F.2.2.1, updN F.2.2.2 d p) else (false, F)
/-- one deed: was it done, the seed, the frame behind it (over the three seeds that may be drawn, and what they give) -/
def deedG (s1 s2 s3 : Int32) (V1 V2 V3 : Nat → Nat) (F : Fm) : Bool × Int32 × Fm :=
  if F.1 = 0 then (false, s1, F)
  else if V1 4 = 0 then ((dH F (V2 F.1)).1, s2, (dH F (V2 F.1)).2)
  else if V1 4 = 1 then ((dP F (V2 15)).1, s2, (dP F (V2 15)).2)
  else if F.2.2.1 = 0 then (false, s1, F)
  else ((dN F ((dst F.2.2.1 (V2 (pc F.2.2.1)) 15 0 0).getD 0) (V3 F.1 + 1)).1, s3, (dN F ((dst F.2.2.1 (V2 (pc F.2.2.1)) 15 0 0).getD 0) (V3 F.1 + 1)).2)
def deed (s : Int32) (F : Fm) : Bool × Int32 × Fm := deedG (nxt s) (nxt (nxt s)) (nxt (nxt (nxt s))) (dv (nxt s)) (dv (nxt (nxt s))) (dv (nxt (nxt (nxt s)))) F
theorem dst_some {pa k : Nat} : ∀ (j u i : Nat), i ≤ k → k < i + pcN j (pa / 2 ^ u) → ∃ d, dst pa k j u i = some d ∧ u < d ∧ d ≤ u + j ∧ pa.testBit (d - 1) = true
  | 0, u, i, h1, h2 => by rw [pcN] at h2; omega
  | j + 1, u, i, h1, h2 => by
    rw [pcN, Nat.div_div_eq_div_mul, ← Nat.pow_succ] at h2
    rw [dst]
    have hb := Nat.testBit_eq_decide_div_mod_eq (x := pa) (i := u)
    by_cases h0 : pa.testBit u = true
    · rw [if_pos h0]
      by_cases hk : i = k
      · rw [if_pos hk]
        exact ⟨u + 1, rfl, by omega, by omega, h0⟩
      · rw [if_neg hk]
        have : pa / 2 ^ u % 2 = 1 := by rw [h0] at hb; simpa using hb.symm
        obtain ⟨d, e1, e2, e3, e4⟩ := dst_some (pa := pa) (k := k) j (u + 1) (i + 1) (by omega) (by show k < i + 1 + pcN j (pa / 2 ^ (u + 1)); have h2 : k < i + (pa / 2 ^ u % 2 + pcN j (pa / 2 ^ (u + 1))) := h2; omega)
        exact ⟨d, e1, by omega, by omega, e4⟩
    · rw [if_neg h0]
      have : pa / 2 ^ u % 2 = 0 := by
        have h9 : pa.testBit u = false := by simpa using h0
        rw [h9] at hb
        have : ¬ pa / 2 ^ u % 2 = 1 := by simpa using hb.symm
        omega
      obtain ⟨d, e1, e2, e3, e4⟩ := dst_some (pa := pa) (k := k) j (u + 1) i (by omega) (by have h2 : k < i + (pa / 2 ^ u % 2 + pcN j (pa / 2 ^ (u + 1))) := h2; omega)
      exact ⟨d, e1, by omega, by omega, e4⟩
theorem pc_15 {pa : Nat} (h : pa < 2 ^ 15) : pc pa = pcN 15 pa := by
  unfold pc
  rw [show 18 = 15 + 3 from rfl, pcN_split, Nat.div_eq_of_lt h, pcN_0, Nat.add_zero]
theorem pc_pos {pa : Nat} (h : pa < 2 ^ 15) (h0 : pa ≠ 0) : 1 ≤ pc pa := pcN_pos 18 pa (by omega) (by omega)
theorem dst_ok {pa k : Nat} (h : pa < 2 ^ 15) (hk : k < pc pa) : ∃ d, dst pa k 15 0 0 = some d ∧ 1 ≤ d ∧ d ≤ 15 ∧ pa.testBit (d - 1) = true := by
  obtain ⟨d, e1, e2, e3, e4⟩ := dst_some (pa := pa) (k := k) 15 0 0 (by omega) (by rw [Nat.pow_zero, Nat.div_one, ← pc_15 h]; omega)
  exact ⟨d, e1, by omega, by omega, e4⟩
theorem okH_deed {c ho p : Nat} {f : Nat → Nat} (hp : p < c) (h : (pinM f 0 15).testBit p = false) : okH c ho f (p + 1) (!ho.testBit p) := by
  refine ⟨⟨by omega, by omega⟩, ?_, by rw [show p + 1 - 1 = p by omega]; exact h⟩
  rw [show p + 1 - 1 = p by omega]
  cases ho.testBit p <;> simp
theorem dH_wf {F : Fm} {p : Nat} (h : WFf F) (hp : p < F.1) : WFf (dH F p).2 := by
  have hw : WF F.1 F.2.1 F.2.2.1 F.2.2.2 := h
  unfold dH
  by_cases h2 : (pinM F.2.2.2 0 15).testBit p = true
  · rw [if_pos h2]; exact h
  · rw [if_neg h2]
    have := hw.hole (okH_deed (ho := F.2.1) hp (by simpa using h2))
    rw [Nat.add_sub_cancel] at this
    exact this
theorem dP_wf {F : Fm} {d : Nat} (h : WFf F) : WFf (dP F d).2 := by
  have hw : WF F.1 F.2.1 F.2.2.1 F.2.2.2 := h
  unfold dP
  by_cases h3 : okPb F.2.2.1 (d + 1) (!F.2.2.1.testBit d) = true
  · rw [if_pos h3]
    have := hw.pair (okPb_iff.mp h3)
    rw [Nat.add_sub_cancel] at this
    exact this
  · rw [if_neg h3]; exact h
theorem dN_wf {F : Fm} {d p : Nat} (h : WFf F) (hd : 1 ≤ d ∧ d ≤ 15 ∧ F.2.2.1.testBit (d - 1) = true) : WFf (dN F d p).2 := by
  have hw : WF F.1 F.2.1 F.2.2.1 F.2.2.2 := h
  unfold dN
  by_cases h4 : F.2.2.2 d ≠ 0
  · rw [if_pos h4]
    exact hw.pin ⟨hd, Or.inl rfl⟩ (Or.inl rfl)
  · rw [if_neg h4]
    by_cases h5 : pinA F.1 F.2.1 F.2.2.1 F.2.2.2 d p = 0
    · rw [if_pos h5]
      obtain ⟨q1, q2, q3⟩ := pinA_inv0 h5
      exact hw.pin q1 q3
    · rw [if_neg h5]; exact h
theorem deedG_wf {s1 s2 s3 : Int32} {V1 V2 V3 : Nat → Nat} {F : Fm} (h : WFf F) (hV : ∀ m, 1 ≤ m → V2 m < m) : WFf (deedG s1 s2 s3 V1 V2 V3 F).2.2 := by
  have hw : WF F.1 F.2.1 F.2.2.1 F.2.2.2 := h
  unfold deedG
  by_cases h0 : F.1 = 0
  · rw [if_pos h0]; exact h
  rw [if_neg h0]
  by_cases h1 : V1 4 = 0
  · rw [if_pos h1]
    exact dH_wf h (hV _ (by omega))
  rw [if_neg h1]
  by_cases h2 : V1 4 = 1
  · rw [if_pos h2]
    exact dP_wf h
  rw [if_neg h2]
  by_cases h3 : F.2.2.1 = 0
  · rw [if_pos h3]; exact h
  rw [if_neg h3]
  obtain ⟨d, e1, e2, e3, e4⟩ := dst_ok (pa := F.2.2.1) (k := V2 (pc F.2.2.1)) hw.2.2.1 (hV _ (pc_pos hw.2.2.1 h3))
  rw [e1]
  exact dN_wf h ⟨e2, e3, e4⟩
theorem deed_wf {s : Int32} {F : Fm} (h : WFf F) : WFf (deed s F).2.2 := deedG_wf h (fun m hm => dv_lt hm)
section DEED
variable {n : Nat} {x : Nat → Nat → Int32} {w : Int64} {I : Nat → Nat → Int32} {L : Nat → Nat → Int64} {Q : Nat → Nat → Option Nat} {D : Nat → Bool}
theorem c_draw {s : Int32} {m : Nat} (hs : x 13 0 = s) (h1 : 1 ≤ m) (h2 : m < 2 ^ 31) : f_X0_draw (MM n x w I L Q D) 13 (nI m) = some (nI (dv (nxt s) m), MM n (s2 x 13 0 (nxt s)) w I L Q D) := by
  unfold f_X0_draw
  rw [g_13_0, Option.bind_some, hs, p_13_0, Option.bind_some, if_pos (show (1 : Int32) ≤ nI m from nI_le (a := 1) h1 h2), g_13_0, Option.bind_some, s2_e, if_neg (nI_ne0 (by omega) h2)]
  have e : s * 1103515245 + 12345 = nxt s := rfl
  rw [e, dvI h1 h2]
theorem m_draw {s : Int32} {m : Nat} (hs : x 64 30 = s) (h1 : 1 ≤ m) (h2 : m < 2 ^ 31) : f_X7_draw (MM n x w I L Q D) 64 (nI m) = some (nI (dv (nxt s) m), MM n (s2 x 64 30 (nxt s)) w I L Q D) := by
  unfold f_X7_draw
  rw [g_64_30, Option.bind_some, hs, p_64_30, Option.bind_some, g_64_30, Option.bind_some, s2_e, if_neg (nI_ne0 (by omega) h2)]
  have e : s * 1103515245 + 12345 = nxt s := rfl
  rw [e, dvI h1 h2]
/-- what a deed leaves of the class's heap -/
def DeC (x I x' I' : Nat → Nat → Int32) (F : Fm) : Prop := FrF x' I' 6 F ∧ (∀ a, a ≠ 6 → x' a = x a) ∧ ∀ a, a ≠ 7 → I' a = I a
theorem c_dH {F : Fm} {p : Nat} (h6 : FrF x I 6 F) (hw : WFf F) (hp : p < F.1) : ∃ x' I', ((f_X2_hasHole (MM n x w I L Q D) 6 (nI p + 1)).bind fun x10 => if x10 = 0 then ((f_X2_setHole (MM n x w I L Q D) 6 (nI p + 1) (1 : Int32)).bind fun x12 => if x12.1 = (-1 : Int32) then (some (((0 : Int32), x12.2))) else (some (((1 : Int32), x12.2)))) else ((f_X2_setHole (MM n x w I L Q D) 6 (nI p + 1) (0 : Int32)).bind fun x11 => if x11.1 = (-1 : Int32) then (some (((0 : Int32), x11.2))) else (some (((1 : Int32), x11.2))))) = some (bI (dH F p).1, MM n x' w I' L Q D) ∧ DeC x I x' I' (dH F p).2 := by
  have hx : FrC x I 6 F.1 F.2.1 F.2.2.1 F.2.2.2 := h6
  have hw9 : WF F.1 F.2.1 F.2.2.1 F.2.2.2 := hw
  have hc := hw9.1
  have hp1 : p + 1 - 1 = p := by omega
  have hset := fun b => c_setHole (n := n) (w := w) (L := L) (Q := Q) (D := D) (p := p + 1) (b := b) isF6 hx hw9 (by omega)
  have e1 : nI p + 1 = nI (p + 1) := by rw [li1, nI_add]
  have hres : ∀ b, F.2.1.testBit p ≠ b → ∃ x' I', ((f_X2_setHole (MM n x w I L Q D) 6 (nI (p + 1)) (bI b)).bind fun x12 => if x12.1 = (-1 : Int32) then (some (((0 : Int32), x12.2))) else (some (((1 : Int32), x12.2)))) = some (bI (dH F p).1, MM n x' w I' L Q D) ∧ DeC x I x' I' (dH F p).2 := by
    intro b hb
    unfold dH
    by_cases h2 : (pinM F.2.2.2 0 15).testBit p = true
    · have hno : ¬ okH F.1 F.2.1 F.2.2.2 (p + 1) b := fun z => by
        have := z.2.2
        rw [hp1, h2] at this
        cases this
      rw [(hset b).2 hno, Option.bind_some, if_pos h2, if_pos (show NO = -1 from rfl)]
      exact ⟨_, _, rfl, h6, fun _ _ => rfl, fun _ _ => rfl⟩
    · have hok : okH F.1 F.2.1 F.2.2.2 (p + 1) b := ⟨⟨by omega, by omega⟩, by rw [hp1]; exact hb, by rw [hp1]; simpa using h2⟩
      rw [(hset b).1 hok, Option.bind_some, if_neg h2, hp1, if_neg (show ¬ nI (pc (F.2.1 ^^^ 2 ^ p)) = -1 from nI_NO (pc_small _))]
      refine ⟨_, _, rfl, ?_, fun a q1 => s2_row q1, fun _ _ => rfl⟩
      show FrC _ _ _ _ _ _ _
      unfold FrC
      rw [s2_ne (by decide), s2_e, s2_ne (by decide)]
      exact ⟨hx.1, rfl, hx.2.2.1, hx.2.2.2⟩
  rw [e1, c_hasHole isF6 hx hc (by have := hw9.ho18; omega) (by omega), Option.bind_some, hp1]
  cases hb : F.2.1.testBit p with
  | true =>
    rw [if_pos (show 1 ≤ p + 1 ∧ p + 1 ≤ F.1 ∧ true = true from ⟨by omega, by omega, rfl⟩), if_neg (show ¬ (1 : Int32) = 0 by decide)]
    exact hres false (by rw [hb]; decide)
  | false =>
    rw [if_neg (show ¬ (1 ≤ p + 1 ∧ p + 1 ≤ F.1 ∧ false = true) from fun z => by cases z.2.2), if_pos rfl]
    exact hres true (by rw [hb]; decide)
theorem c_dP {F : Fm} {d : Nat} (h6 : FrF x I 6 F) (hw : WFf F) (hd : d < 15) : ∃ x' I', ((f_X2_hasPair (MM n x w I L Q D) 6 (nI d + 1)).bind fun x5 => if x5 = 0 then ((f_X2_setPair (MM n x w I L Q D) 6 (nI d + 1) (1 : Int32)).bind fun x7 => if x7.1 = (-1 : Int32) then (some (((0 : Int32), x7.2))) else (some (((1 : Int32), x7.2)))) else ((f_X2_setPair (MM n x w I L Q D) 6 (nI d + 1) (0 : Int32)).bind fun x6 => if x6.1 = (-1 : Int32) then (some (((0 : Int32), x6.2))) else (some (((1 : Int32), x6.2))))) = some (bI (dP F d).1, MM n x' w I' L Q D) ∧ DeC x I x' I' (dP F d).2 := by
  have hx : FrC x I 6 F.1 F.2.1 F.2.2.1 F.2.2.2 := h6
  have hw9 : WF F.1 F.2.1 F.2.2.1 F.2.2.2 := hw
  have hp1 : d + 1 - 1 = d := by omega
  have hset := fun b => c_setPair (n := n) (w := w) (L := L) (Q := Q) (D := D) (d := d + 1) (b := b) isF6 hx hw9 (by omega)
  have e1 : nI d + 1 = nI (d + 1) := by rw [li1, nI_add]
  have hres : ∀ b, b = !F.2.2.1.testBit d → ∃ x' I', ((f_X2_setPair (MM n x w I L Q D) 6 (nI (d + 1)) (bI b)).bind fun x12 => if x12.1 = (-1 : Int32) then (some (((0 : Int32), x12.2))) else (some (((1 : Int32), x12.2)))) = some (bI (dP F d).1, MM n x' w I' L Q D) ∧ DeC x I x' I' (dP F d).2 := by
    intro b hb
    subst hb
    unfold dP
    by_cases q : okPb F.2.2.1 (d + 1) (!F.2.2.1.testBit d) = true
    · rw [(hset _).1 (okPb_iff.mp q), Option.bind_some, hp1, if_pos q, if_neg (show ¬ nI (pc (F.2.2.1 ^^^ 2 ^ d)) = -1 from nI_NO (pc_small _))]
      refine ⟨_, _, rfl, ?_, fun a q1 => s2_row q1, fun a q1 => s2_row q1⟩
      show FrC _ _ _ _ _ _ _
      unfold FrC
      rw [s2_ne (by decide), s2_ne (by decide), s2_e]
      refine ⟨hx.1, hx.2.1, rfl, fun e he => ?_⟩
      rw [s2_at]
      show _ = nI (updN F.2.2.2 (d + 1) 0 e)
      by_cases z : e = d + 1
      · rw [if_pos ⟨rfl, z⟩, z, updN_e]; rfl
      · rw [if_neg (fun y => z y.2), updN_n z]
        exact hx.2.2.2 e he
    · rw [(hset _).2 (fun z => q (okPb_iff.mpr z)), Option.bind_some, if_neg q, if_pos (show NO = -1 from rfl)]
      exact ⟨_, _, rfl, h6, fun _ _ => rfl, fun _ _ => rfl⟩
  rw [e1, c_hasPair isF6 hx (by omega), Option.bind_some, hp1]
  cases hb : F.2.2.1.testBit d with
  | true =>
    rw [if_pos (show 1 ≤ d + 1 ∧ d + 1 ≤ 15 ∧ true = true from ⟨by omega, by omega, rfl⟩), if_neg (show ¬ (1 : Int32) = 0 by decide)]
    exact hres false (by rw [hb]; rfl)
  | false =>
    rw [if_neg (show ¬ (1 ≤ d + 1 ∧ d + 1 ≤ 15 ∧ false = true) from fun z => by cases z.2.2), if_pos rfl]
    exact hres true (by rw [hb]; rfl)
theorem c_dN {F : Fm} {d p : Nat} (h6 : FrF x I 6 F) (hw : WFf F) (hd : 1 ≤ d ∧ d ≤ 15 ∧ F.2.2.1.testBit (d - 1) = true) (hp : p < 2 ^ 30) : ∃ x' I', ((f_X2_hasPair (MM n x w I L Q D) 6 (nI d)).bind fun x7 => if x7 = 0 then ((f_X2_setPin (MM n x w I L Q D) 6 (nI d) (nI p + 1)).bind fun x8 => if x8.1 = 0 then (some (((1 : Int32), x8.2))) else (some (((0 : Int32), x8.2)))) else ((gR (MM n x w I L Q D) 6 2 3).bind fun x10 => (aI (MM n x w I L Q D) 0 x10 (nI d)).bind fun x11 => if x11 = 0 then ((f_X2_setPin (MM n x w I L Q D) 6 (nI d) (nI p + 1)).bind fun x12 => if x12.1 = 0 then (some (((1 : Int32), x12.2))) else (some (((0 : Int32), x12.2)))) else ((f_X2_setPin (MM n x w I L Q D) 6 (nI d) (0 : Int32)).bind fun x15 => if x15.1 = 0 then (some (((1 : Int32), x15.2))) else (some (((0 : Int32), x15.2)))))) = some (bI (dN F d (p + 1)).1, MM n x' w I' L Q D) ∧ DeC x I x' I' (dN F d (p + 1)).2 := by
  have hx : FrC x I 6 F.1 F.2.1 F.2.2.1 F.2.2.2 := h6
  have hw9 : WF F.1 F.2.1 F.2.2.1 F.2.2.2 := hw
  have hfd := hw9.f18 (d := d) (by omega)
  have hset0 := c_setPin (n := n) (w := w) (L := L) (Q := Q) (D := D) (d := d) (p := 0) isF6 hx hw9 (by omega) (by decide)
  have hset1 := c_setPin (n := n) (w := w) (L := L) (Q := Q) (D := D) (d := d) (p := p + 1) isF6 hx hw9 (by omega) (by omega)
  have e1 : nI p + 1 = nI (p + 1) := by rw [li1, nI_add]
  rw [e1, c_hasPair isF6 hx (by omega), Option.bind_some, if_pos hd, if_neg (show ¬ (1 : Int32) = 0 by decide), r_6_3, Option.bind_some, F_a (a := 6) isF6 (by omega), Option.bind_some, hx.2.2.2 d (by omega)]
  unfold dN
  by_cases h4 : F.2.2.2 d = 0
  · have h4' : ¬ F.2.2.2 d ≠ 0 := fun q => q h4
    rw [if_pos (show nI (F.2.2.2 d) = 0 by rw [h4]; rfl), hset1, Option.bind_some]
    rcases pinA_lt (c := F.1) (ho := F.2.1) (pa := F.2.2.1) (f := F.2.2.2) (d := d) (p := p + 1) with e | e | e | e
    · rw [e, if_neg h4', if_pos rfl]
      refine ⟨x, s2 I 7 d (nI (p + 1)), ?_, c_pin_frame hx, fun _ _ => rfl, fun a q => s2_row q⟩
      show (if (0 : Int32) = 0 then _ else _) = _
      rw [if_pos rfl]
      rfl
    · rw [e, if_neg h4']
      refine ⟨x, I, ?_, h6, fun _ _ => rfl, fun _ _ => rfl⟩
      show (if (1 : Int32) = 0 then _ else _) = _
      rw [if_neg (by decide)]
      rfl
    · rw [e, if_neg h4']
      refine ⟨x, I, ?_, h6, fun _ _ => rfl, fun _ _ => rfl⟩
      show (if (2 : Int32) = 0 then _ else _) = _
      rw [if_neg (by decide)]
      rfl
    · rw [e, if_neg h4']
      refine ⟨x, I, ?_, h6, fun _ _ => rfl, fun _ _ => rfl⟩
      show (if NO = 0 then _ else _) = _
      rw [if_neg (by decide)]
      rfl
  · rw [if_neg (show ¬ nI (F.2.2.2 d) = 0 from nI_ne0 (by omega) (by omega)), if_pos h4]
    rw [pinA_0 ⟨hd, Or.inl rfl⟩ h4 (Or.inl rfl)] at hset0
    rw [show f_X2_setPin (MM n x w I L Q D) 6 (nI d) 0 = _ from hset0, Option.bind_some]
    refine ⟨x, s2 I 7 d (nI 0), ?_, c_pin_frame hx, fun _ _ => rfl, fun a q => s2_row q⟩
    show (if (0 : Int32) = 0 then _ else _) = _
    rw [if_pos rfl]
    rfl
theorem FrF_13 {x I : Nat → Nat → Int32} {F : Fm} {v : Int32} (h : FrF x I 6 F) : FrF (s2 x 13 0 v) I 6 F := h.same (s2_row (by decide)) rfl
def DeedC (x I x' I' : Nat → Nat → Int32) (R : Bool × Int32 × Fm) : Prop := x' 13 0 = R.2.1 ∧ FrF x' I' 6 R.2.2 ∧ (∀ a, a ≠ 6 → a ≠ 13 → x' a = x a) ∧ ∀ a, a ≠ 7 → I' a = I a
/-- what a draw does -/
def DrC (n : Nat) (w : Int64) (L : Nat → Nat → Int64) (Q : Nat → Nat → Option Nat) (D : Nat → Bool) (s s1 : Int32) (V : Nat → Nat) : Prop := ∀ (x I : Nat → Nat → Int32) (m : Nat), x 13 0 = s → 1 ≤ m → m < 2 ^ 31 → f_X0_draw (MM n x w I L Q D) 13 (nI m) = some (nI (V m), MM n (s2 x 13 0 s1) w I L Q D)
theorem c_deedG {s s1 s2' s3 : Int32} {V1 V2 V3 : Nat → Nat} {F : Fm} (d1 : DrC n w L Q D s s1 V1) (d2 : DrC n w L Q D s1 s2' V2) (d3 : DrC n w L Q D s2' s3 V3) (v1 : ∀ m, 1 ≤ m → V1 m < m) (v2 : ∀ m, 1 ≤ m → V2 m < m) (v3 : ∀ m, 1 ≤ m → V3 m < m) (hs : x 13 0 = s) (h6 : FrF x I 6 F) (hw : WFf F) : ∃ x' I', f_X0_doDeed (MM n x w I L Q D) 13 6 = some (bI (deedG s1 s2' s3 V1 V2 V3 F).1, MM n x' w I' L Q D) ∧ DeedC x I x' I' (deedG s1 s2' s3 V1 V2 V3 F) := by
  have hw9 : WF F.1 F.2.1 F.2.2.1 F.2.2.2 := hw
  have hc := hw9.1
  have hx1 : FrC (s2 x 13 0 s1) I 6 F.1 F.2.1 F.2.2.1 F.2.2.2 := FrF_13 h6
  have hd4 := v1 4 (by decide)
  unfold f_X0_doDeed DeedC deedG
  rw [o_13, if_pos rfl, show f_X0_draw (MM n x w I L Q D) 13 4 = _ from d1 x I 4 hs (by decide) (by decide), Option.bind_some, F_g0 isF6, hx1.1, Option.bind_some]
  by_cases h0 : F.1 = 0
  · rw [if_pos (show nI F.1 = 0 by rw [h0]; rfl), if_pos h0]
    exact ⟨_, I, rfl, s2_e, hx1, fun a _ q => s2_row q, fun _ _ => rfl⟩
  · rw [if_neg (show ¬ nI F.1 = 0 from nI_ne0 (by omega) (by omega)), if_neg h0]
    by_cases h1 : V1 4 = 0
    · have h2x : FrF (s2 (s2 x 13 0 s1) 13 0 s2') I 6 F := FrF_13 (FrF_13 h6)
      have hdc := v2 F.1 (by omega)
      obtain ⟨x', I', g1, g2, g3, g4⟩ := c_dH (n := n) (w := w) (L := L) (Q := Q) (D := D) h2x hw hdc
      rw [if_pos (show nI (V1 4) = 0 by rw [h1]; rfl), Option.bind_some, o_13, if_pos rfl, d2 _ I F.1 s2_e (by omega) (by omega), Option.bind_some, if_pos h1]
      simp only [o_6, if_true]
      exact ⟨x', I', g1, by rw [g3 13 (by decide), s2_e], g2, fun a q1 q2 => by rw [g3 a q1, s2_row q2, s2_row q2], g4⟩
    · rw [if_neg (show ¬ nI (V1 4) = 0 from nI_ne0 (by omega) (by omega)), if_neg h1]
      by_cases h2 : V1 4 = 1
      · have h2x : FrF (s2 (s2 x 13 0 s1) 13 0 s2') I 6 F := FrF_13 (FrF_13 h6)
        have hdc := v2 15 (by decide)
        obtain ⟨x', I', g1, g2, g3, g4⟩ := c_dP (n := n) (w := w) (L := L) (Q := Q) (D := D) h2x hw hdc
        rw [if_pos (show nI (V1 4) = 1 by rw [h2]; rfl), o_13, if_pos rfl, show f_X0_draw (MM n (s2 x 13 0 s1) w I L Q D) 13 15 = _ from d2 _ I 15 s2_e (by decide) (by decide), Option.bind_some, if_pos h2]
        simp only [o_6, if_true]
        exact ⟨x', I', g1, by rw [g3 13 (by decide), s2_e], g2, fun a q1 q2 => by rw [g3 a q1, s2_row q2, s2_row q2], g4⟩
      · rw [if_neg (show ¬ nI (V1 4) = 1 from fun z => h2 ((nI_eq (b := 1) (by omega) (by decide)).mp z)), o_13, if_pos rfl, if_neg h2]
        unfold f_X0_doPin
        have hp := hw9.2.2.1
        rw [F_g2 isF6, hx1.2.2.1, Option.bind_some, bcN (by omega), Option.bind_some]
        by_cases h3 : F.2.2.1 = 0
        · rw [if_pos h3, if_pos (show nI (pc F.2.2.1) = 0 by rw [h3]; rfl), Option.bind_some, if_pos (Or.inl rfl)]
          exact ⟨_, I, rfl, s2_e, hx1, fun a _ q => s2_row q, fun _ _ => rfl⟩
        · have hpp := pc_pos hp h3
          have hpc9 := hw9.2.2.2.1
          have hdl := v2 _ hpp
          have hdc := v3 F.1 (by omega)
          have hx2 : FrC (s2 (s2 x 13 0 s1) 13 0 s2') I 6 F.1 F.2.1 F.2.2.1 F.2.2.2 := FrF_13 (FrF_13 h6)
          have hx3 : FrF (s2 (s2 (s2 x 13 0 s1) 13 0 s2') 13 0 s3) I 6 F := FrF_13 (FrF_13 (FrF_13 h6))
          obtain ⟨d, e1, e2, e3, e4⟩ := dst_ok (pa := F.2.2.1) (k := V2 (pc F.2.2.1)) hp hdl
          rw [if_neg h3, e1, if_neg (show ¬ nI (pc F.2.2.1) = 0 from nI_ne0 (by omega) (pc_small _)), o_13, if_pos rfl, d2 _ I _ s2_e hpp (pc_small _), Option.bind_some]
          obtain ⟨x', I', g1, g2, g3, g4⟩ := c_dN (n := n) (w := w) (L := L) (Q := Q) (D := D) (p := V3 F.1) hx3 hw ⟨e2, e3, e4⟩ (by omega)
          simp only [o_6, o_13, if_true]
          rw [c_distanceOf isF6 hx2 (by omega), e1, Option.bind_some, F_g0 isF6, hx2.1, Option.bind_some, d3 _ I _ s2_e (by omega) (by omega), Option.bind_some]
          simp only [o_6, if_true]
          have hfin : bI (dN F d (V3 F.1 + 1)).1 = 0 ∨ bI (dN F d (V3 F.1 + 1)).1 = 1 := by cases (dN F d (V3 F.1 + 1)).1 <;> decide
          refine ⟨x', I', ?_, by rw [g3 13 (by decide), s2_e], g2, fun a q1 q2 => by rw [g3 a q1, s2_row q2, s2_row q2, s2_row q2], g4⟩
          refine Eq.trans (congrArg (fun z => Option.bind z _) g1) ?_
          show (if bI (dN F d (V3 F.1 + 1)).1 = 0 ∨ bI (dN F d (V3 F.1 + 1)).1 = 1 then _ else _) = _
          rw [if_pos hfin]
          rfl
theorem c_deed {s : Int32} {F : Fm} (hs : x 13 0 = s) (h6 : FrF x I 6 F) (hw : WFf F) : ∃ x' I', f_X0_doDeed (MM n x w I L Q D) 13 6 = some (bI (deed s F).1, MM n x' w I' L Q D) ∧ DeedC x I x' I' (deed s F) :=
  c_deedG (fun x I m h1 h2 h3 => c_draw h1 h2 h3) (fun x I m h1 h2 h3 => c_draw h1 h2 h3) (fun x I m h1 h2 h3 => c_draw h1 h2 h3) (fun m h => dv_lt h) (fun m h => dv_lt h) (fun m h => dv_lt h) hs h6 hw
end DEED
