/-! a frame: pins, filling a row, beginning, copying, a new one -/
theorem u1_u1 {α : Type} {x : Nat → α} {a : Nat} {X Y : α} : u1 (u1 x a X) a Y = u1 x a Y := by
  funext b
  unfold u1
  by_cases h : b = a <;> simp [h]
theorem u1_same {α : Type} {x : Nat → α} {a : Nat} : u1 x a (x a) = x := by
  funext b
  unfold u1
  by_cases h : b = a
  · rw [if_pos h, h]
  · rw [if_neg h]
theorem s2_u1 {x : Nat → Nat → Int32} {a k : Nat} {X : Nat → Int32} {v : Int32} : s2 (u1 x a X) a k v = u1 x a (upd X k v) := by
  unfold s2
  rw [u1_u1, u1_e]
section FRE
variable {n : Nat} {x : Nat → Nat → Int32} {w : Int64} {I : Nat → Nat → Int32} {L : Nat → Nat → Int64} {Q : Nat → Nat → Option Nat} {D : Nat → Bool} {a c ho pa : Nat} {f : Nat → Nat}
/-- what a pin answers: 3 there is no such, 1 it is so already, 2 something is in the way, 0 it is done -/
def pinA (c ho pa : Nat) (f : Nat → Nat) (d p : Nat) : Nat :=
  if ¬ ((1 ≤ d ∧ d ≤ 15 ∧ pa.testBit (d - 1) = true) ∧ (p = 0 ∨ (1 ≤ p ∧ p + d ≤ c))) then 3 else if f d = p then 1 else if p ≠ 0 ∧ ¬ ((ho ||| pinM f d 15).testBit (p - 1) = false ∧ (ho ||| pinM f d 15).testBit (p + d - 1) = false) then 2 else 0
def pinOk (c pa d p : Nat) : Prop := (1 ≤ d ∧ d ≤ 15 ∧ pa.testBit (d - 1) = true) ∧ (p = 0 ∨ (1 ≤ p ∧ p + d ≤ c))
def pinFree (ho : Nat) (f : Nat → Nat) (d p : Nat) : Prop := (ho ||| pinM f d 15).testBit (p - 1) = false ∧ (ho ||| pinM f d 15).testBit (p + d - 1) = false
theorem pinA_3 {d p : Nat} (h : ¬ pinOk c pa d p) : pinA c ho pa f d p = 3 := if_pos h
theorem pinA_1 {d p : Nat} (h : pinOk c pa d p) (e : f d = p) : pinA c ho pa f d p = 1 := by
  unfold pinA
  rw [if_neg (fun z => z h), if_pos e]
theorem pinA_2 {d p : Nat} (h : pinOk c pa d p) (e : f d ≠ p) (h0 : p ≠ 0) (q : ¬ pinFree ho f d p) : pinA c ho pa f d p = 2 := by
  unfold pinA
  rw [if_neg (fun z => z h), if_neg e, if_pos ⟨h0, q⟩]
theorem pinA_0 {d p : Nat} (h : pinOk c pa d p) (e : f d ≠ p) (q : p = 0 ∨ pinFree ho f d p) : pinA c ho pa f d p = 0 := by
  unfold pinA
  rw [if_neg (fun z => z h), if_neg e, if_neg (fun z => by rcases q with q | q; exact z.1 q; exact z.2 q)]
theorem c_setPin {d p : Nat} (hF : isF D a) (hx : FrC x I a c ho pa f) (hw : WF c ho pa f) (hd : d < 2 ^ 31) (hp : p < 2 ^ 31) : f_X2_setPin (MM n x w I L Q D) a (nI d) (nI p) = some (match pinA c ho pa f d p with
    | 0 => (0, MM n x w (s2 I (a + 1) d (nI p)) L Q D)
    | 1 => (1, (MM n x w I L Q D))
    | 2 => (2, (MM n x w I L Q D))
    | _ => (NO, (MM n x w I L Q D))) := by
  have hc := hw.1
  have hh := hw.ho18
  have hf18 : ∀ d, d < 16 → f d + d ≤ 18 ∨ f d = 0 := fun d hd => hw.f18 hd
  have hpm := pinM_lt (f := f) d 15 (fun d hd => hw.f18 (by omega))
  have n10 : ¬ (1 : Int32) = 0 := by decide
  unfold f_X2_setPin
  rw [liN, F_o hF, if_pos rfl, c_hasPair hF hx hd, Option.bind_some]
  by_cases h1 : 1 ≤ d ∧ d ≤ 15 ∧ pa.testBit (d - 1) = true
  · have hfd := hf18 d (by omega)
    rw [if_pos h1, if_neg n10]
    by_cases h0 : p = 0
    · subst h0
      have hok : pinOk c pa d 0 := ⟨h1, Or.inl rfl⟩
      rw [if_pos (show nI 0 = 0 from rfl), F_r hF, Option.bind_some, F_a hF (by omega), Option.bind_some, hx.2.2.2 d (by omega)]
      by_cases h2 : f d = 0
      · rw [pinA_1 hok h2, if_pos (show nI (f d) = nI 0 by rw [h2])]; rfl
      · have h2' : ¬ nI (f d) = nI 0 := fun e => h2 ((nI_eq (by omega) (by decide)).mp e)
        rw [pinA_0 hok h2 (Or.inl rfl), if_neg h2', if_pos (show nI 0 = 0 from rfl), Option.bind_some, F_as hF (by omega), Option.bind_some]; rfl
    · have h0' : ¬ nI p = 0 := nI_ne0 (by omega) hp
      rw [if_neg h0', if_pos rfl, c_hasPlace hF hx.1 hc hp, Option.bind_some]
      by_cases h3 : 1 ≤ p ∧ p ≤ c
      · rw [if_pos h3, if_neg n10, if_pos rfl, nI_add, c_hasPlace hF hx.1 hc (by omega), Option.bind_some]
        by_cases h4 : p + d ≤ c
        · have h4' : 1 ≤ p + d ∧ p + d ≤ c := ⟨by omega, h4⟩
          have hok : pinOk c pa d p := ⟨h1, Or.inr ⟨by omega, h4⟩⟩
          rw [if_pos h4', if_neg n10, F_r hF, Option.bind_some, F_a hF (by omega), Option.bind_some, hx.2.2.2 d (by omega)]
          by_cases h5 : f d = p
          · rw [pinA_1 hok h5, if_pos (show nI (f d) = nI p by rw [h5])]; rfl
          · have h5' : ¬ nI (f d) = nI p := fun e => h5 ((nI_eq (by omega) hp).mp e)
            rw [if_neg h5', if_neg h0', F_g1 hF, hx.2.1, Option.bind_some, if_pos rfl, c_pinnedPlaces hF hx hf18 hd, Option.bind_some, bitN (by omega) (by omega), Option.bind_some, bitN (by omega) (by omega), Option.bind_some, fa_or ho]
            have h6 := and2 (m := ho ||| pinM f d 15) (i := p - 1) (j := p + d - 1) (Nat.lt_of_lt_of_le (Nat.or_lt_two_pow hh hpm) (by decide)) (by omega) (by omega)
            by_cases h7 : pinFree ho f d p
            · rw [pinA_0 hok h5 (Or.inr h7), if_pos (h6.mpr h7), Option.bind_some, F_as hF (by omega), Option.bind_some]; rfl
            · rw [pinA_2 hok h5 h0 h7, if_neg (fun e => h7 (h6.mp e))]; rfl
        · have h4' : ¬ (1 ≤ p + d ∧ p + d ≤ c) := fun e => h4 e.2
          rw [pinA_3 (fun e => by rcases e.2 with e | e <;> omega), if_neg h4', if_pos rfl]; rfl
      · rw [pinA_3 (fun e => by rcases e.2 with e | e <;> omega), if_neg h3, if_pos rfl]; rfl
  · rw [pinA_3 (fun e => h1 e.1), if_neg h1, if_pos rfl]; rfl
theorem c_setPinN {d : Nat} {p : Int32} (hF : isF D a) (hx : FrC x I a c ho pa f) (hd : d < 2 ^ 31) (hp : p < 0) : f_X2_setPin (MM n x w I L Q D) a (nI d) p = some (NO, (MM n x w I L Q D)) := by
  unfold f_X2_setPin
  rw [liN, F_o hF, if_pos rfl, c_hasPair hF hx hd, Option.bind_some]
  by_cases h1 : 1 ≤ d ∧ d ≤ 15 ∧ pa.testBit (d - 1) = true
  · have hp0 : ¬ p = 0 := neg_ne (k := 0) hp (by decide)
    rw [if_pos h1, if_neg (show ¬ (1 : Int32) = 0 by decide), if_neg hp0, if_pos rfl, c_hasPlaceN hp, Option.bind_some, if_pos rfl]
  · rw [if_neg h1, if_pos rfl]
theorem c_setPinM {d p : Int32} (hF : isF D a) (hd : d < 0) : f_X2_setPin (MM n x w I L Q D) a d p = some (NO, (MM n x w I L Q D)) := by
  unfold f_X2_setPin
  rw [liN, F_o hF, if_pos rfl, c_hasPairN hd, Option.bind_some, if_pos rfl]
/-- Arrays.fill -/
theorem c_fill_l {b len : Nat} {v : Int32} (hl : len < 2 ^ 31) (hset : ∀ (I : Nat → Nat → Int32) (j : Nat), j < len → sI (MM n x w I L Q D) 0 b (nI j) v = some (MM n x w (s2 I b j v) L Q D)) : ∀ (j u fu : Nat), u + j = len → j < fu → f_J7_fill_53178_5 fu b v (nI u) (nI len) (MM n x w (u1 I b (fa_fill (fun _ => v) (I b) u)) L Q D) = some (MM n x w (u1 I b (fa_fill (fun _ => v) (I b) len)) L Q D) := by
  intro j
  induction j with
  | zero =>
    intro u fu hu hfu
    obtain ⟨fu, rfl⟩ : ∃ n9, fu = n9 + 1 := ⟨fu - 1, by omega⟩
    obtain rfl : u = len := by omega
    rw [f_J7_fill_53178_5, if_pos (nI_le (Nat.le_refl _) hl)]
  | succ j ih =>
    intro u fu hu hfu
    obtain ⟨fu, rfl⟩ : ∃ n9, fu = n9 + 1 := ⟨fu - 1, by omega⟩
    rw [f_J7_fill_53178_5, if_neg (nI_ge (by omega) hl), hset _ _ (by omega), Option.bind_some, s2_u1, fa_fill_succ (fun _ => v), li1, nI_add]
    exact ih (u + 1) fu (by omega) (by omega)
theorem c_fill {b len : Nat} {v : Int32} (hl : len < 4096) (hN : aN (MM n x w I L Q D) b = some (nI len)) (hset : ∀ (I : Nat → Nat → Int32) (j : Nat), j < len → sI (MM n x w I L Q D) 0 b (nI j) v = some (MM n x w (s2 I b j v) L Q D)) : f_J7_fill_53178 (MM n x w I L Q D) b v = some (MM n x w (u1 I b (fa_fill (fun _ => v) (I b) len)) L Q D) := by
  unfold f_J7_fill_53178
  rw [hN, Option.bind_some]
  have := c_fill_l (n := n) (x := x) (w := w) (I := I) (L := L) (Q := Q) (D := D) (b := b) (len := len) (v := v) (by omega) hset len 0 4096 (by omega) hl
  rw [fa_fill_0, u1_same] at this
  exact this
theorem c_begin {v0 v1 v2 : Int32} (hF : isF D a) : ∃ x' I', f_X2_begin (MM n x w I L Q D) a v0 v1 v2 = some (MM n x' w I' L Q D) ∧ (∀ e j, x' e j = if e = a ∧ j < 3 then (if j = 0 then v0 else if j = 1 then v1 else v2) else x e j) ∧ (∀ e j, I' e j = if e = a + 1 ∧ j < 16 then 0 else I e j) := by
  refine ⟨s2 (s2 (s2 x a 0 v0) a 1 v1) a 2 v2, u1 I (a + 1) (fa_fill (fun _ => 0) (I (a + 1)) 16), ?_, ?_, ?_⟩
  · unfold f_X2_begin
    rw [F_s0 hF, Option.bind_some, F_s1 hF, Option.bind_some, F_s2 hF, Option.bind_some, F_r hF, Option.bind_some, c_fill (len := 16) (by decide) (F_n hF) (fun I j hj => F_as hF hj), Option.bind_some]
  · intro e j
    simp only [s2_at]
    by_cases he : e = a
    · subst he
      rcases (show j = 0 ∨ j = 1 ∨ j = 2 ∨ 3 ≤ j by omega) with rfl | rfl | rfl | hj
      · simp
      · simp
      · simp
      · simp [show ¬ j < 3 by omega, show ¬ j = 0 by omega, show ¬ j = 1 by omega, show ¬ j = 2 by omega]
    · simp [he]
  · intro e j
    by_cases he : e = a + 1
    · subst he
      rw [u1_e]
      by_cases hj : j < 16
      · rw [fa_fill_in hj, if_pos ⟨rfl, hj⟩]
      · rw [fa_fill_out (by omega), if_neg (fun q => hj q.2)]
    · rw [u1_n he, if_neg (fun q => he q.1)]
theorem c_copy {b : Nat} (hF : isF D a) (hG : isF D b) : ∃ x' I', f_X2_copy (MM n x w I L Q D) a b = some (MM n x' w I' L Q D) ∧ (∀ e j, x' e j = if e = a ∧ j < 3 then x b j else x e j) ∧ (∀ e j, I' e j = if e = a + 1 ∧ j < 16 then I (b + 1) j else I e j) := by
  refine ⟨s2 (s2 (s2 x a 0 (x b 0)) a 1 (x b 1)) a 2 (x b 2), u1 I (a + 1) (va_cpy (I (b + 1)) (I (a + 1)) 0 0 16), ?_, ?_, ?_⟩
  · unfold f_X2_copy
    rw [F_g0 hG, Option.bind_some, F_s0 hF, Option.bind_some, F_g1 hG, Option.bind_some, s2_at, if_neg (fun q => by cases q.2), F_s1 hF, Option.bind_some, F_g2 hG, Option.bind_some, s2_at, if_neg (fun q => by cases q.2), s2_at, if_neg (fun q => by cases q.2), F_s2 hF, Option.bind_some, F_r hG, Option.bind_some, F_r hF, Option.bind_some, Option.bind_some, F_n hF, Option.bind_some]
    have hcp : cpA (MM n (s2 (s2 (s2 x a 0 (x b 0)) a 1 (x b 1)) a 2 (x b 2)) w I L Q D) 0 (b + 1) 0 (a + 1) 0 16 = some (MM n (s2 (s2 (s2 x a 0 (x b 0)) a 1 (x b 1)) a 2 (x b 2)) w (u1 I (a + 1) (va_cpy (I (b + 1)) (I (a + 1)) 0 0 16)) L Q D) := by
      unfold cpA
      rw [f_pn hG, f_pn hF]
      show (if _ then _ else _) = _
      rw [if_pos ⟨⟨rfl, rfl⟩, ⟨by decide, by decide, by decide⟩, by decide, by decide, fun i _ => rfl⟩]
      exact congrArg some (hs_I (f_p hF))
    rw [hcp, Option.bind_some]
  · intro e j
    simp only [s2_at]
    by_cases he : e = a
    · subst he
      rcases (show j = 0 ∨ j = 1 ∨ j = 2 ∨ 3 ≤ j by omega) with rfl | rfl | rfl | hj
      · simp
      · simp
      · simp
      · simp [show ¬ j < 3 by omega, show ¬ j = 0 by omega, show ¬ j = 1 by omega, show ¬ j = 2 by omega]
    · simp [he]
  · intro e j
    by_cases he : e = a + 1
    · subst he
      rw [u1_e]
      by_cases hj : j < 16
      · rw [pk_cpy_in (by omega) (by omega), if_pos ⟨rfl, hj⟩, show 0 + (j - 0) = j by omega]
      · rw [pk_cpy_out (by omega), if_neg (fun q => hj q.2)]
    · rw [u1_n he, if_neg (fun q => he q.1)]
/-- where frames may be made -/
def DOK (n : Nat) (D : Nat → Bool) : Prop := 81 ≤ n ∧ ∀ k, D k = true → 81 ≤ k ∧ k + 1 < n
theorem DOK.no {k : Nat} (h : DOK n D) (hk : n ≤ k + 1) : D k = false := by
  cases e : D k with
  | false => rfl
  | true => have := (h.2 k e).2; omega
theorem c_newF (h : DOK n D) : (nO (MM n x w I L Q D) 2 [.int 0, .int 0, .int 0, .null]).bind (fun x13 => (f_X2_init x13.2 x13.1).bind fun h14 => some (x13.1, h14)) = some (n, MM (n + 2) (u1 x n (fun _ => 0)) w (u1 I (n + 1) (fun _ => 0)) L Q (fun k => decide (k = n) || D k)) := by
  have h81 := h.1
  have hD0 := h.no (k := n) (by omega)
  have hD1 := h.no (k := n + 1) (by omega)
  unfold nO
  rw [Option.bind_some]
  have e0 : (hpush (MM n x w I L Q D) (.inr (2, [.int 0, .int 0, .int 0, .null]))).2 n = some (.inr (2, [.int 0, .int 0, .int 0, .null])) := if_pos rfl
  have key : f_X2_init (hpush (MM n x w I L Q D) (.inr (2, [.int 0, .int 0, .int 0, .null]))) n = some (MM (n + 2) (u1 x n (fun _ => 0)) w (u1 I (n + 1) (fun _ => 0)) L Q (fun k => decide (k = n) || D k)) := by
    unfold f_X2_init
    have p0 : ∀ (hh : Hp) (fs : List Value) (j : Nat) (v : Value), hh.2 n = some (.inr (2, fs)) → j < fs.length → pV hh n 2 j v = some (hset hh n (.inr (2, fs.set j v))) := by
      intro hh fs j v e1 e2
      unfold pV
      rw [e1]
      exact if_pos ⟨rfl, e2⟩
    have s0 : ∀ (hh : Hp) (e : PE), (hset hh n e).2 n = some e := fun hh e => if_pos rfl
    rw [p0 _ _ 0 (.int 0) e0 (by decide), Option.bind_some, p0 _ _ 1 (.int 0) (s0 _ _) (by decide), Option.bind_some, p0 _ _ 2 (.int 0) (s0 _ _) (by decide), Option.bind_some]
    have f1 : (hset (hset (hset (hpush (MM n x w I L Q D) (.inr (2, [.int 0, .int 0, .int 0, .null]))) n (.inr (2, [Value.int 0, .int 0, .int 0, .null].set 0 (.int 0)))) n (.inr (2, ([Value.int 0, .int 0, .int 0, .null].set 0 (.int 0)).set 1 (.int 0)))) n (.inr (2, (([Value.int 0, .int 0, .int 0, .null].set 0 (.int 0)).set 1 (.int 0)).set 2 (.int 0)))).1 = n + 1 := rfl
    have f2 : (hset (hset (hset (hpush (MM n x w I L Q D) (.inr (2, [.int 0, .int 0, .int 0, .null]))) n (.inr (2, [Value.int 0, .int 0, .int 0, .null].set 0 (.int 0)))) n (.inr (2, ([Value.int 0, .int 0, .int 0, .null].set 0 (.int 0)).set 1 (.int 0)))) n (.inr (2, (([Value.int 0, .int 0, .int 0, .null].set 0 (.int 0)).set 1 (.int 0)).set 2 (.int 0)))).2 n = some (.inr (2, [.int 0, .int 0, .int 0, .null])) := s0 _ _
    have f3 : ∀ k, k ≠ n → (hset (hset (hset (hpush (MM n x w I L Q D) (.inr (2, [.int 0, .int 0, .int 0, .null]))) n (.inr (2, [Value.int 0, .int 0, .int 0, .null].set 0 (.int 0)))) n (.inr (2, ([Value.int 0, .int 0, .int 0, .null].set 0 (.int 0)).set 1 (.int 0)))) n (.inr (2, (([Value.int 0, .int 0, .int 0, .null].set 0 (.int 0)).set 1 (.int 0)).set 2 (.int 0)))).2 k = ((MM n x w I L Q D)).2 k := fun k hk => by
      show (if k = n then _ else if k = n then _ else if k = n then _ else if k = n then _ else _) = _
      rw [if_neg hk, if_neg hk, if_neg hk, if_neg hk]
    generalize hset (hset (hset (hpush (MM n x w I L Q D) (.inr (2, [.int 0, .int 0, .int 0, .null]))) n (.inr (2, [Value.int 0, .int 0, .int 0, .null].set 0 (.int 0)))) n (.inr (2, ([Value.int 0, .int 0, .int 0, .null].set 0 (.int 0)).set 1 (.int 0)))) n (.inr (2, (([Value.int 0, .int 0, .int 0, .null].set 0 (.int 0)).set 1 (.int 0)).set 2 (.int 0))) = H3 at f1 f2 f3 ⊢
    unfold nA
    rw [if_neg (by decide), Option.bind_some]
    show (pV (hpush H3 (.inl (0, 16, zA 0))) n 2 3 (.ref H3.1)).bind (fun h5 => some h5) = _
    rw [p0 _ [.int 0, .int 0, .int 0, .null] 3 _ (by show (if n = H3.1 then _ else _) = _; rw [f1, if_neg (by omega)]; exact f2) (by decide), Option.bind_some]
    refine congrArg some (Prod.ext (by show H3.1 + 1 = n + 2; rw [f1]) (funext fun k => ?_))
    show (if k = n then some (Sum.inr (2, [Value.int 0, .int 0, .int 0, .ref H3.1])) else (if k = H3.1 then _ else H3.2 k)) = cel k _ _ _ _ _ _ _
    rw [f1]
    by_cases hk : k = n
    · subst hk
      rw [if_pos rfl]
      unfold cel
      rw [shp_no h81, u1_e]
      simp [bld]
    · rw [if_neg hk]
      by_cases hk1 : k = n + 1
      · subst hk1
        rw [if_pos rfl]
        unfold cel
        rw [shp_no (by omega), u1_e]
        simp [bld, hD1]
        rfl
      · rw [if_neg hk1, f3 k hk]
        show cel k _ _ _ _ _ _ _ = _
        rw [u1_n hk, u1_n hk1]
        dsimp only
        rw [show (decide (k = n) || D k) = D k by simp [hk], show (decide (k - 1 = n) || D (k - 1)) = D (k - 1) by simp [show ¬ k - 1 = n by omega]]
  show (f_X2_init (hpush (MM n x w I L Q D) _) n).bind _ = _
  rw [key, Option.bind_some]
  rfl
end FRE
