/-! what is set keeps a frame whole -/
theorem pinM_bit {f : Nat → Nat} {e d : Nat} (h0 : f d ≠ 0) (he : d ≠ e) (h1 : 1 ≤ d) : ∀ k, d ≤ k → (pinM f e k).testBit (f d - 1) = true ∧ (pinM f e k).testBit (f d + d - 1) = true
  | 0, h => by omega
  | k + 1, h => by
    rw [pinM]
    by_cases hd : d = k + 1
    · subst hd
      rw [if_pos ⟨h0, he⟩]
      simp [Nat.testBit_or, Nat.testBit_two_pow]
    · have ih := pinM_bit h0 he h1 k (by omega)
      split
      · simp [Nat.testBit_or, ih.1, ih.2]
      · exact ih
theorem pc_flip {m i : Nat} (hi : i < 18) : pc (m ^^^ 2 ^ i) + (if m.testBit i = true then 1 else 0) = pc m + (if m.testBit i = true then 0 else 1) := by
  rw [pc_ct, pc_ct]
  have h := fb_ct_upd (fun k => m.testBit k) (!m.testBit i) hi
  have e : fb_ct (fun k => (m ^^^ 2 ^ i).testBit k) 18 = fb_ct (fun k => if k = i then (!m.testBit i) else m.testBit k) 18 := by
    apply fb_ct_cong
    intro k _
    rw [fb_bit_flip]
    by_cases q : k = i
    · subst q; simp
    · simp [q]
  rw [e]
  cases hb : m.testBit i <;> simp [hb] at h ⊢ <;> omega
theorem WF.hole {c ho pa : Nat} {f : Nat → Nat} {p : Nat} {b : Bool} (hw : WF c ho pa f) (h : okH c ho f p b) : WF c (ho ^^^ 2 ^ (p - 1)) pa f := by
  obtain ⟨w1, w2, w3, w4, w5, w6⟩ := hw
  refine ⟨w1, Nat.xor_lt_two_pow w2 (Nat.pow_lt_pow_right (by decide) (by have := h.1; omega)), w3, w4, fun d hd => ?_, w6⟩
  rcases w5 d hd with e | ⟨e1, e2, e3, e4, e5, e6⟩
  · exact Or.inl e
  · refine Or.inr ⟨e1, e2, e3, e4, ?_, ?_⟩
    · have := (pinM_bit (f := f) (e := 0) (d := d) (by omega) (by omega) e1 15 (by omega)).1
      rw [fb_bit_flip, e5]
      by_cases q : f d - 1 = p - 1
      · rw [q, h.2.2] at this; cases this
      · simp [q]
    · have := (pinM_bit (f := f) (e := 0) (d := d) (by omega) (by omega) e1 15 (by omega)).2
      rw [fb_bit_flip, e6]
      by_cases q : f d + d - 1 = p - 1
      · rw [q, h.2.2] at this; cases this
      · simp [q]
def updN (f : Nat → Nat) (d v : Nat) : Nat → Nat := fun e => if e = d then v else f e
theorem WF.pair {c ho pa : Nat} {f : Nat → Nat} {d : Nat} {b : Bool} (hw : WF c ho pa f) (h : okP pa d b) : WF c ho (pa ^^^ 2 ^ (d - 1)) (updN f d 0) := by
  obtain ⟨w1, w2, w3, w4, w5, w6⟩ := hw
  have hd := h.1
  refine ⟨w1, w2, Nat.xor_lt_two_pow w3 (Nat.pow_lt_pow_right (by decide) (by omega)), ?_, fun e he => ?_, fun e g he hg hne h1 h2 => ?_⟩
  · have hp := pc_flip (m := pa) (i := d - 1) (by omega)
    cases b with
    | false =>
      have : pa.testBit (d - 1) = true := by have := h.2.1; revert this; cases pa.testBit (d - 1) <;> simp
      rw [this] at hp
      simp at hp
      omega
    | true =>
      have : pa.testBit (d - 1) = false := by have := h.2.1; revert this; cases pa.testBit (d - 1) <;> simp
      have h9 := h.2.2 rfl
      rw [this] at hp
      simp at hp
      omega
  · unfold updN
    by_cases q : e = d
    · rw [if_pos q]; exact Or.inl rfl
    · rw [if_neg q]
      rcases w5 e he with z | ⟨e1, e2, e3, e4, e5, e6⟩
      · exact Or.inl z
      · refine Or.inr ⟨e1, ?_, e3, e4, e5, e6⟩
        rw [fb_bit_flip, e2]
        simp
        omega
  · unfold updN at *
    by_cases q : e = d
    · rw [if_pos q] at h1; exact absurd rfl h1
    · by_cases q2 : g = d
      · rw [if_pos q2] at h2; exact absurd rfl h2
      · rw [if_neg q] at h1 ⊢
        rw [if_neg q2] at h2 ⊢
        exact w6 e g he hg hne h1 h2
theorem WF.pin {c ho pa : Nat} {f : Nat → Nat} {d p : Nat} (hw : WF c ho pa f) (h : pinOk c pa d p) (q : p = 0 ∨ pinFree ho f d p) : WF c ho pa (updN f d p) := by
  obtain ⟨w1, w2, w3, w4, w5, w6⟩ := hw
  have hd := h.1
  have key : ∀ e, e < 16 → e ≠ d → f e ≠ 0 → p ≠ 0 → p ≠ f e ∧ p ≠ f e + e ∧ p + d ≠ f e ∧ p + d ≠ f e + e := by
    intro e he hne h0 hp
    have hfr := q.resolve_left hp
    rcases w5 e he with z | ⟨e1, e2, e3, e4, e5, e6⟩
    · exact absurd z h0
    · have hb := pinM_bit (f := f) (e := d) (d := e) h0 hne e1 15 (by omega)
      obtain ⟨f1, f2⟩ := hfr
      rw [Nat.testBit_or, Bool.or_eq_false_iff] at f1 f2
      have hp1 := (h.2.resolve_left hp).1
      refine ⟨fun z => ?_, fun z => ?_, fun z => ?_, fun z => ?_⟩
      · rw [z, hb.1] at f1; cases f1.2
      · rw [z, hb.2] at f1; cases f1.2
      · rw [z, hb.1] at f2; cases f2.2
      · rw [z, hb.2] at f2; cases f2.2
  refine ⟨w1, w2, w3, w4, fun e he => ?_, fun e g he hg hne h1 h2 => ?_⟩
  · unfold updN
    by_cases z : e = d
    · rw [if_pos z]
      by_cases hp : p = 0
      · exact Or.inl hp
      · obtain ⟨g1, g2⟩ := h.2.resolve_left hp
        obtain ⟨f1, f2⟩ := q.resolve_left hp
        rw [Nat.testBit_or, Bool.or_eq_false_iff] at f1 f2
        subst z
        exact Or.inr ⟨hd.1, hd.2.2, g1, g2, f1.1, f2.1⟩
    · rw [if_neg z]
      exact w5 e he
  · unfold updN at *
    by_cases z : e = d
    · rw [if_pos z] at h1 ⊢
      have z2 : ¬ g = d := by omega
      rw [if_neg z2] at h2 ⊢
      have := key g hg z2 h2 h1
      exact ⟨this.1, this.2.1, by rw [z]; exact this.2.2.2⟩
    · rw [if_neg z] at h1 ⊢
      by_cases z2 : g = d
      · rw [if_pos z2] at h2 ⊢
        have := key e he z h1 h2
        exact ⟨fun k => this.1 k.symm, fun k => this.2.2.1 (by rw [← z2]; exact k.symm), fun k => this.2.2.2 (by rw [← z2]; exact k.symm)⟩
      · rw [if_neg z2] at h2 ⊢
        exact w6 e g he hg hne h1 h2
/-! an act is kept: the class's part -/
def actS (S : St) (F : Fm) : St := (tL S, tB S, fL S, F, addN (uN9 S), addU (uN9 S) (uF S) (fR S), iM S, lN9 S, lR S)
theorem CI.before {PC : PCt} (hP : PCok PC) {n : Nat} {x I x' I' : Nat → Nat → Int32} {L : Nat → Nat → Int64} {Q : Nat → Nat → Option Nat} {D : Nat → Bool} {S : St} (k : CI PC n x I L Q D S) (hx : ∀ a, a ≠ 8 → x' a = x a) (hI : ∀ a, a ≠ 9 → I' a = I a) : CI PC n x' I' L Q D S := by
  obtain ⟨k1, k2, k3, k4, k5, k6, k7, k8, k9⟩ := k
  refine ⟨k1, k2, ?_, ?_, ⟨k5.1, k5.2.same (hx 6 (by decide)) (hI 7 (by decide))⟩, ?_, ?_, ⟨k8.1, ?_⟩, ?_⟩
  · rw [hx 0 (by decide), hI 1 (by decide)]; exact k3
  · rw [hx 0 (by decide)]; exact k4
  · rw [hx 10 (by decide)]
    obtain ⟨e1, e2, t, e3, e4, e5⟩ := k6
    refine ⟨e1, e2, t, e3, e4, fun k hk => ?_⟩
    obtain ⟨e6, a, e7, e8⟩ := e5 k hk
    have := (k2.ring (Nat.mod_lt _ (by decide)) e7).1
    exact ⟨e6, a, e7, e8.same (hx a (by omega)) (hI _ (by omega))⟩
  · intro k hk
    have e := k7 k hk
    cases hi : iM S k with
    | none => rw [hi] at e; exact e
    | some G =>
      rw [hi] at e
      obtain ⟨e6, a, e7, e8⟩ := e
      have := (k2.img hk e7).1
      exact ⟨e6, a, e7, e8.same (hx a (by omega)) (hI _ (by omega))⟩
  · unfold LKC at *
    rw [hx 60 (by decide), hI 61 (by decide), hI 62 (by decide)]
    exact k8.2
  · exact hP.2 _ _ _ _ _ _ _ (hx 14 (by decide)) (fun a h1 h2 => hI a (by omega)) rfl rfl k9
theorem c_acted {PC : PCt} (hP : PCok PC) {n : Nat} {x : Nat → Nat → Int32} {w : Int64} {I : Nat → Nat → Int32} {L : Nat → Nat → Int64} {Q : Nat → Nat → Option Nat} {D : Nat → Bool} {x1 I1 : Nat → Nat → Int32} {S : St} {F : Fm} (k : CI PC n x I L Q D S) (hx : ∀ a, a ≠ 6 → a ≠ 8 → x1 a = x a) (hI : ∀ a, a ≠ 7 → a ≠ 9 → I1 a = I a) (h8 : FrF x1 I1 8 (fR S)) (h6 : FrF x1 I1 6 F) (hw : WFf F) : ∃ n' x' I' Q' D', f_X6_acted (MM n x1 w I1 L Q D) 0 = some (MM n' x' w I' L Q' D') ∧ CI PC n' x' I' L Q' D' (actS S F) ∧ SM x I x' I' ∧ x' 6 = x1 6 := by
  obtain ⟨k1, k2, k3, k4, k5, k6, k7, k8, k9⟩ := k
  have hH : HC n x1 I1 Q D (uN9 S) (uF S) := by
    obtain ⟨e1, e2, t, e3, e4, e5⟩ := k6
    refine ⟨k1, k2, e1, by rw [hx 10 (by decide) (by decide)]; exact e2, t, e3, by rw [hx 10 (by decide) (by decide)]; exact e4, fun k hk => ?_⟩
    obtain ⟨e6, a, e7, e8⟩ := e5 k hk
    have := (k2.ring (Nat.mod_lt _ (by decide)) e7).1
    exact ⟨e6, a, e7, e8.same (hx a (by omega) (by omega)) (hI _ (by omega) (by omega))⟩
  obtain ⟨n', x', I', Q', D', g1, g2, g3, g4, g5, g6, g7⟩ := c_keep (w := w) (L := L) hH h8 k5.1
  obtain ⟨d1, d2, d3, d4, d5⟩ := g2
  have ge : ∀ b, b < 81 → b ≠ 10 → b ≠ 6 → b ≠ 8 → b ≠ 14 → s2 x' 14 5 0 b = x b := fun b h1 h2 h3 h4 h5 => by rw [s2_row h5, g5 b h1 h2, hx b h3 h4]
  have gI : ∀ b, b < 81 → b ≠ 7 → b ≠ 9 → I' b = I b := fun b h1 h2 h3 => by rw [g6 b h1, hI b h2 h3]
  refine ⟨n', s2 x' 14 5 0, I', Q', D', ?_, ⟨d1, d2, ?_, ?_, ⟨hw, ?_⟩, ⟨d3, ?_, ?_⟩, ?_, ⟨k8.1, ?_⟩, hP.1 _ _ _ _ s2_e⟩, fun a h1 h2 => ⟨ge a (by omega) (by omega) (by omega) (by omega) (by omega), gI a (by omega) (by omega) (by omega)⟩, ?_⟩
  · unfold f_X6_acted
    rw [r_0_6, Option.bind_some, r_0_5, Option.bind_some, o_10, if_pos rfl, g1, Option.bind_some, r_0_9, Option.bind_some, p_14_5, Option.bind_some]
  · rw [ge 0 (by decide) (by decide) (by decide) (by decide) (by decide), gI 1 (by decide) (by decide) (by decide)]
    exact k3
  · rw [ge 0 (by decide) (by decide) (by decide) (by decide) (by decide)]
    exact k4
  · exact h6.same (by rw [s2_row (by decide), g5 6 (by decide) (by decide)]) (g6 7 (by decide))
  · rw [s2_row (by decide)]; exact d4
  · obtain ⟨t, e3, e4, e5⟩ := d5
    refine ⟨t, e3, by rw [s2_row (by decide)]; exact e4, fun k hk => ?_⟩
    obtain ⟨e6, a, e7, e8⟩ := e5 k hk
    have := d2.ring (Nat.mod_lt _ (by decide)) e7
    exact ⟨e6, a, e7, e8.same (s2_row (this.ne (by decide))) rfl⟩
  · intro k hk
    have e := k7 k hk
    show (match iM S k with | none => _ | some G => _)
    cases hi : iM S k with
    | none => rw [hi] at e; show Q' 12 k = none; rw [g3]; exact e
    | some G =>
      rw [hi] at e
      obtain ⟨e6, a, e7, e8⟩ := e
      have hd := k2.img hk e7
      obtain ⟨z1, z2⟩ := g7 k a hk e7
      refine ⟨e6, a, by rw [g3]; exact e7, e8.same ?_ ?_⟩
      · rw [s2_row (hd.ne (by decide)), z1, hx a (hd.ne (by decide)) (hd.ne (by decide))]
      · rw [z2, hI _ (by have := hd.1; omega) (by have := hd.1; omega)]
  · unfold LKC at *
    show s2 x' 14 5 0 60 2 = lI (lN9 S) ∧ _
    rw [ge 60 (by decide) (by decide) (by decide) (by decide) (by decide), gI 61 (by decide) (by decide) (by decide), gI 62 (by decide) (by decide) (by decide)]
    exact k8.2
  · rw [s2_row (by decide), g5 6 (by decide) (by decide)]
