/-! THE SMALL HEAP AS ONE FUNCTION OF WHAT IT HOLDS: x the int fields by object and field, w the model's word, I the arrays of ints (bytes, booleans), L of longs, Q the rows of frames, D where a frame was made later (its pins lie behind it) -/
def shp : List (Nat × Nat) := [(16, 0), (1, 340), (15, 0), (12, 0), (0, 16), (1, 340), (12, 0), (0, 16), (12, 0), (0, 16), (13, 0), (4, 8), (4, 2), (10, 0), (11, 14), (2, 19), (0, 16), (0, 10), (5, 19), (0, 19), (0, 19), (0, 19), (0, 19), (0, 19), (0, 19), (0, 19), (0, 19), (0, 19), (0, 19), (0, 19), (0, 19), (0, 19), (0, 19), (0, 19), (0, 19), (2, 2656), (12, 0), (0, 16), (11, 38), (2, 19), (0, 16), (0, 10), (5, 43), (0, 19), (0, 19), (0, 19), (0, 19), (0, 19), (0, 19), (0, 19), (0, 19), (0, 19), (0, 19), (0, 19), (0, 19), (0, 19), (0, 19), (0, 19), (0, 19), (2, 0), (14, 0), (0, 122), (0, 61), (0, 19), (17, 0), (0, 340), (0, 19), (0, 19), (0, 38), (0, 152), (0, 19), (0, 19), (0, 19), (3, 2), (0, 18), (0, 18), (0, 18), (0, 320), (0, 121), (0, 121), (2, 1)]
def bld (t par k : Nat) (x : Nat → Int32) (w : Int64) (I : Nat → Int32) (L : Nat → Int64) (Q : Nat → Option Nat) : Option PE := match t with
  | 0 => some (.inl (0, par, .inl I))
  | 1 => some (.inl (1, par, .inl I))
  | 2 => some (.inl (2, par, .inr (.inl L)))
  | 3 => some (.inl (3, par, .inl I))
  | 4 => some (.inl (4, par, .inr (.inr (.inr (.inr Q)))))
  | 5 => some (.inl (5, 16, .inr (.inr (.inr (.inr fun i => if i < 16 then some (par + i) else none)))))
  | 10 => some (.inr (0, [.int (x 0)]))
  | 11 => some (.inr (1, [.ref (par + 21), .ref (par + 1), .ref (par + 2), .ref (par + 3), .ref (par + 4), .int (x 5), .int (x 6), .int (x 7)]))
  | 12 => some (.inr (2, [.int (x 0), .int (x 1), .int (x 2), .ref (k + 1)]))
  | 13 => some (.inr (3, [.ref 11, .int (x 1), .int (x 2)]))
  | 14 => some (.inr (4, [.ref 61, .ref 62, .int (x 2)]))
  | 15 => some (.inr (5, [.ref 3, .ref 5, .int (x 2), .int (x 3), .int (x 4), .int (x 5), .int (x 6), .int (x 7), .int (x 8)]))
  | 16 => some (.inr (6, [.ref 1, .int (x 1), .ref 2, .int (x 3), .ref 6, .ref 8, .ref 10, .ref 12, .ref 13, .ref 14, .ref 36, .ref 38, .ref 60, .ref 63]))
  | 17 => some (.inr (7, [.int (x 0), .ref 65, .int (x 2), .int (x 3), .int (x 4), .int (x 5), .int (x 6), .int (x 7), .int (x 8), .int (x 9), .long w, .ref 66, .ref 67, .ref 68, .ref 69, .ref 70, .ref 71, .ref 72, .ref 73, .int (x 19), .ref 74, .ref 75, .ref 76, .ref 77, .int (x 24), .int (x 25), .int (x 26), .ref 78, .int (x 28), .ref 79, .int (x 30)]))
  | _ => none
def cel (k : Nat) (x : Nat → Int32) (w : Int64) (I : Nat → Int32) (L : Nat → Int64) (Q : Nat → Option Nat) (d d9 : Bool) : Option PE := match shp[k]? with
  | some (t, par) => bld t par k x w I L Q
  | none => if d = true then bld 12 0 k x w I L Q else if d9 = true then bld 0 16 k x w I L Q else none
def MM (n : Nat) (x : Nat → Nat → Int32) (w : Int64) (I : Nat → Nat → Int32) (L : Nat → Nat → Int64) (Q : Nat → Nat → Option Nat) (D : Nat → Bool) : Hp := (n, fun k => cel k (x k) w (I k) (L k) (Q k) (D k) (D (k - 1)))
/-- one row, or one object, changed -/
def u1 {α : Type} (x : Nat → α) (a : Nat) (X : α) : Nat → α := fun b => if b = a then X else x b
def s2 (x : Nat → Nat → Int32) (a k : Nat) (v : Int32) : Nat → Nat → Int32 := u1 x a (upd (x a) k v)
theorem u1_e {α : Type} {x : Nat → α} {a : Nat} {X : α} : u1 x a X a = X := if_pos rfl
theorem u1_n {α : Type} {x : Nat → α} {a b : Nat} {X : α} (h : b ≠ a) : u1 x a X b = x b := if_neg h
theorem s2_at {x : Nat → Nat → Int32} {a k b j : Nat} {v : Int32} : s2 x a k v b j = if b = a ∧ j = k then v else x b j := by
  unfold s2 u1 upd
  by_cases h : b = a
  · subst h; by_cases h2 : j = k <;> simp [h2]
  · simp [h]
section MEM
variable {n : Nat} {x : Nat → Nat → Int32} {w : Int64} {I : Nat → Nat → Int32} {L : Nat → Nat → Int64} {Q : Nat → Nat → Option Nat} {D : Nat → Bool}
theorem hs_x {a : Nat} {e : PE} {X : Nat → Int32} (h : cel a X w (I a) (L a) (Q a) (D a) (D (a - 1)) = some e) : hset (MM n x w I L Q D) a e = MM n (u1 x a X) w I L Q D := by
  refine Prod.ext rfl (funext fun k => ?_)
  show (if k = a then some e else _) = _
  by_cases hk : k = a
  · subst hk; rw [if_pos rfl, ← h]; show _ = cel k (u1 x k X k) _ _ _ _ _ _; rw [u1_e]
  · rw [if_neg hk]; show cel k (x k) _ _ _ _ _ _ = cel k (u1 x a X k) _ _ _ _ _ _; rw [u1_n hk]
theorem hs_I {a : Nat} {e : PE} {X : Nat → Int32} (h : cel a (x a) w X (L a) (Q a) (D a) (D (a - 1)) = some e) : hset (MM n x w I L Q D) a e = MM n x w (u1 I a X) L Q D := by
  refine Prod.ext rfl (funext fun k => ?_)
  show (if k = a then some e else _) = _
  by_cases hk : k = a
  · subst hk; rw [if_pos rfl, ← h]; show _ = cel k _ _ (u1 I k X k) _ _ _ _; rw [u1_e]
  · rw [if_neg hk]; show cel k _ _ (I k) _ _ _ _ = cel k _ _ (u1 I a X k) _ _ _ _; rw [u1_n hk]
theorem hs_L {a : Nat} {e : PE} {X : Nat → Int64} (h : cel a (x a) w (I a) X (Q a) (D a) (D (a - 1)) = some e) : hset (MM n x w I L Q D) a e = MM n x w I (u1 L a X) Q D := by
  refine Prod.ext rfl (funext fun k => ?_)
  show (if k = a then some e else _) = _
  by_cases hk : k = a
  · subst hk; rw [if_pos rfl, ← h]; show _ = cel k _ _ _ (u1 L k X k) _ _ _; rw [u1_e]
  · rw [if_neg hk]; show cel k _ _ _ (L k) _ _ _ = cel k _ _ _ (u1 L a X k) _ _ _; rw [u1_n hk]
theorem hs_Q {a : Nat} {e : PE} {X : Nat → Option Nat} (h : cel a (x a) w (I a) (L a) X (D a) (D (a - 1)) = some e) : hset (MM n x w I L Q D) a e = MM n x w I L (u1 Q a X) D := by
  refine Prod.ext rfl (funext fun k => ?_)
  show (if k = a then some e else _) = _
  by_cases hk : k = a
  · subst hk; rw [if_pos rfl, ← h]; show _ = cel k _ _ _ _ (u1 Q k X k) _ _; rw [u1_e]
  · rw [if_neg hk]; show cel k _ _ _ _ (Q k) _ _ = cel k _ _ _ _ (u1 Q a X k) _ _; rw [u1_n hk]
theorem hs_w {e : PE} {v : Int64} (h : cel 64 (x 64) v (I 64) (L 64) (Q 64) (D 64) (D 63) = some e) : hset (MM n x w I L Q D) 64 e = MM n x v I L Q D := by
  refine Prod.ext rfl (funext fun k => ?_)
  show (if k = 64 then some e else _) = _
  by_cases hk : k = 64
  · subst hk; rw [if_pos rfl, ← h]; rfl
  · rw [if_neg hk]
    show cel k _ w _ _ _ _ _ = cel k _ v _ _ _ _ _
    unfold cel
    cases hs : shp[k]? with
    | none => rfl
    | some q =>
      have hk9 : k < 81 := (List.getElem?_eq_some_iff.mp hs).1
      have h17 : ∀ j, j < 81 → j ≠ 64 → (shp[j]?.getD (0, 0)).1 ≠ 17 := by decide +kernel
      have h1 := h17 k hk9 hk
      rw [hs] at h1
      obtain ⟨t, par⟩ := q
      have h1 : t ≠ 17 := h1
      show bld t par k _ w _ _ _ = bld t par k _ v _ _ _
      unfold bld
      split <;> first | rfl | (exact absurd rfl h1)
theorem o_13 : oK (MM n x w I L Q D) 13 0 = true := rfl
theorem g_13_0 : gI (MM n x w I L Q D) 13 0 0 = some (x 13 0) := rfl
theorem p_13_0 {v : Int32} : pV (MM n x w I L Q D) 13 0 0 (.int v) = some (MM n (s2 x 13 0 v) w I L Q D) := congrArg some (hs_x rfl)
theorem o_14 : oK (MM n x w I L Q D) 14 1 = true := rfl
theorem r_14_0 : gR (MM n x w I L Q D) 14 1 0 = some 35 := rfl
theorem r_14_1 : gR (MM n x w I L Q D) 14 1 1 = some 15 := rfl
theorem r_14_2 : gR (MM n x w I L Q D) 14 1 2 = some 16 := rfl
theorem r_14_3 : gR (MM n x w I L Q D) 14 1 3 = some 17 := rfl
theorem r_14_4 : gR (MM n x w I L Q D) 14 1 4 = some 18 := rfl
theorem g_14_5 : gI (MM n x w I L Q D) 14 1 5 = some (x 14 5) := rfl
theorem p_14_5 {v : Int32} : pV (MM n x w I L Q D) 14 1 5 (.int v) = some (MM n (s2 x 14 5 v) w I L Q D) := congrArg some (hs_x rfl)
theorem g_14_6 : gI (MM n x w I L Q D) 14 1 6 = some (x 14 6) := rfl
theorem p_14_6 {v : Int32} : pV (MM n x w I L Q D) 14 1 6 (.int v) = some (MM n (s2 x 14 6 v) w I L Q D) := congrArg some (hs_x rfl)
theorem g_14_7 : gI (MM n x w I L Q D) 14 1 7 = some (x 14 7) := rfl
theorem p_14_7 {v : Int32} : pV (MM n x w I L Q D) 14 1 7 (.int v) = some (MM n (s2 x 14 7 v) w I L Q D) := congrArg some (hs_x rfl)
theorem o_38 : oK (MM n x w I L Q D) 38 1 = true := rfl
theorem r_38_0 : gR (MM n x w I L Q D) 38 1 0 = some 59 := rfl
theorem r_38_1 : gR (MM n x w I L Q D) 38 1 1 = some 39 := rfl
theorem r_38_2 : gR (MM n x w I L Q D) 38 1 2 = some 40 := rfl
theorem r_38_3 : gR (MM n x w I L Q D) 38 1 3 = some 41 := rfl
theorem r_38_4 : gR (MM n x w I L Q D) 38 1 4 = some 42 := rfl
theorem g_38_5 : gI (MM n x w I L Q D) 38 1 5 = some (x 38 5) := rfl
theorem p_38_5 {v : Int32} : pV (MM n x w I L Q D) 38 1 5 (.int v) = some (MM n (s2 x 38 5 v) w I L Q D) := congrArg some (hs_x rfl)
theorem g_38_6 : gI (MM n x w I L Q D) 38 1 6 = some (x 38 6) := rfl
theorem p_38_6 {v : Int32} : pV (MM n x w I L Q D) 38 1 6 (.int v) = some (MM n (s2 x 38 6 v) w I L Q D) := congrArg some (hs_x rfl)
theorem g_38_7 : gI (MM n x w I L Q D) 38 1 7 = some (x 38 7) := rfl
theorem p_38_7 {v : Int32} : pV (MM n x w I L Q D) 38 1 7 (.int v) = some (MM n (s2 x 38 7 v) w I L Q D) := congrArg some (hs_x rfl)
theorem o_3 : oK (MM n x w I L Q D) 3 2 = true := rfl
theorem g_3_0 : gI (MM n x w I L Q D) 3 2 0 = some (x 3 0) := rfl
theorem p_3_0 {v : Int32} : pV (MM n x w I L Q D) 3 2 0 (.int v) = some (MM n (s2 x 3 0 v) w I L Q D) := congrArg some (hs_x rfl)
theorem g_3_1 : gI (MM n x w I L Q D) 3 2 1 = some (x 3 1) := rfl
theorem p_3_1 {v : Int32} : pV (MM n x w I L Q D) 3 2 1 (.int v) = some (MM n (s2 x 3 1 v) w I L Q D) := congrArg some (hs_x rfl)
theorem g_3_2 : gI (MM n x w I L Q D) 3 2 2 = some (x 3 2) := rfl
theorem p_3_2 {v : Int32} : pV (MM n x w I L Q D) 3 2 2 (.int v) = some (MM n (s2 x 3 2 v) w I L Q D) := congrArg some (hs_x rfl)
theorem r_3_3 : gR (MM n x w I L Q D) 3 2 3 = some 4 := rfl
theorem o_6 : oK (MM n x w I L Q D) 6 2 = true := rfl
theorem g_6_0 : gI (MM n x w I L Q D) 6 2 0 = some (x 6 0) := rfl
theorem p_6_0 {v : Int32} : pV (MM n x w I L Q D) 6 2 0 (.int v) = some (MM n (s2 x 6 0 v) w I L Q D) := congrArg some (hs_x rfl)
theorem g_6_1 : gI (MM n x w I L Q D) 6 2 1 = some (x 6 1) := rfl
theorem p_6_1 {v : Int32} : pV (MM n x w I L Q D) 6 2 1 (.int v) = some (MM n (s2 x 6 1 v) w I L Q D) := congrArg some (hs_x rfl)
theorem g_6_2 : gI (MM n x w I L Q D) 6 2 2 = some (x 6 2) := rfl
theorem p_6_2 {v : Int32} : pV (MM n x w I L Q D) 6 2 2 (.int v) = some (MM n (s2 x 6 2 v) w I L Q D) := congrArg some (hs_x rfl)
theorem r_6_3 : gR (MM n x w I L Q D) 6 2 3 = some 7 := rfl
theorem o_8 : oK (MM n x w I L Q D) 8 2 = true := rfl
theorem g_8_0 : gI (MM n x w I L Q D) 8 2 0 = some (x 8 0) := rfl
theorem p_8_0 {v : Int32} : pV (MM n x w I L Q D) 8 2 0 (.int v) = some (MM n (s2 x 8 0 v) w I L Q D) := congrArg some (hs_x rfl)
theorem g_8_1 : gI (MM n x w I L Q D) 8 2 1 = some (x 8 1) := rfl
theorem p_8_1 {v : Int32} : pV (MM n x w I L Q D) 8 2 1 (.int v) = some (MM n (s2 x 8 1 v) w I L Q D) := congrArg some (hs_x rfl)
theorem g_8_2 : gI (MM n x w I L Q D) 8 2 2 = some (x 8 2) := rfl
theorem p_8_2 {v : Int32} : pV (MM n x w I L Q D) 8 2 2 (.int v) = some (MM n (s2 x 8 2 v) w I L Q D) := congrArg some (hs_x rfl)
theorem r_8_3 : gR (MM n x w I L Q D) 8 2 3 = some 9 := rfl
theorem o_36 : oK (MM n x w I L Q D) 36 2 = true := rfl
theorem g_36_0 : gI (MM n x w I L Q D) 36 2 0 = some (x 36 0) := rfl
theorem p_36_0 {v : Int32} : pV (MM n x w I L Q D) 36 2 0 (.int v) = some (MM n (s2 x 36 0 v) w I L Q D) := congrArg some (hs_x rfl)
theorem g_36_1 : gI (MM n x w I L Q D) 36 2 1 = some (x 36 1) := rfl
theorem p_36_1 {v : Int32} : pV (MM n x w I L Q D) 36 2 1 (.int v) = some (MM n (s2 x 36 1 v) w I L Q D) := congrArg some (hs_x rfl)
theorem g_36_2 : gI (MM n x w I L Q D) 36 2 2 = some (x 36 2) := rfl
theorem p_36_2 {v : Int32} : pV (MM n x w I L Q D) 36 2 2 (.int v) = some (MM n (s2 x 36 2 v) w I L Q D) := congrArg some (hs_x rfl)
theorem r_36_3 : gR (MM n x w I L Q D) 36 2 3 = some 37 := rfl
theorem o_10 : oK (MM n x w I L Q D) 10 3 = true := rfl
theorem r_10_0 : gR (MM n x w I L Q D) 10 3 0 = some 11 := rfl
theorem g_10_1 : gI (MM n x w I L Q D) 10 3 1 = some (x 10 1) := rfl
theorem p_10_1 {v : Int32} : pV (MM n x w I L Q D) 10 3 1 (.int v) = some (MM n (s2 x 10 1 v) w I L Q D) := congrArg some (hs_x rfl)
theorem g_10_2 : gI (MM n x w I L Q D) 10 3 2 = some (x 10 2) := rfl
theorem p_10_2 {v : Int32} : pV (MM n x w I L Q D) 10 3 2 (.int v) = some (MM n (s2 x 10 2 v) w I L Q D) := congrArg some (hs_x rfl)
theorem o_60 : oK (MM n x w I L Q D) 60 4 = true := rfl
theorem r_60_0 : gR (MM n x w I L Q D) 60 4 0 = some 61 := rfl
theorem r_60_1 : gR (MM n x w I L Q D) 60 4 1 = some 62 := rfl
theorem g_60_2 : gI (MM n x w I L Q D) 60 4 2 = some (x 60 2) := rfl
theorem p_60_2 {v : Int32} : pV (MM n x w I L Q D) 60 4 2 (.int v) = some (MM n (s2 x 60 2 v) w I L Q D) := congrArg some (hs_x rfl)
theorem o_2 : oK (MM n x w I L Q D) 2 5 = true := rfl
theorem r_2_0 : gR (MM n x w I L Q D) 2 5 0 = some 3 := rfl
theorem r_2_1 : gR (MM n x w I L Q D) 2 5 1 = some 5 := rfl
theorem g_2_2 : gI (MM n x w I L Q D) 2 5 2 = some (x 2 2) := rfl
theorem p_2_2 {v : Int32} : pV (MM n x w I L Q D) 2 5 2 (.int v) = some (MM n (s2 x 2 2 v) w I L Q D) := congrArg some (hs_x rfl)
theorem g_2_3 : gI (MM n x w I L Q D) 2 5 3 = some (x 2 3) := rfl
theorem p_2_3 {v : Int32} : pV (MM n x w I L Q D) 2 5 3 (.int v) = some (MM n (s2 x 2 3 v) w I L Q D) := congrArg some (hs_x rfl)
theorem g_2_4 : gI (MM n x w I L Q D) 2 5 4 = some (x 2 4) := rfl
theorem p_2_4 {v : Int32} : pV (MM n x w I L Q D) 2 5 4 (.int v) = some (MM n (s2 x 2 4 v) w I L Q D) := congrArg some (hs_x rfl)
theorem g_2_5 : gI (MM n x w I L Q D) 2 5 5 = some (x 2 5) := rfl
theorem p_2_5 {v : Int32} : pV (MM n x w I L Q D) 2 5 5 (.int v) = some (MM n (s2 x 2 5 v) w I L Q D) := congrArg some (hs_x rfl)
theorem g_2_6 : gI (MM n x w I L Q D) 2 5 6 = some (x 2 6) := rfl
theorem p_2_6 {v : Int32} : pV (MM n x w I L Q D) 2 5 6 (.int v) = some (MM n (s2 x 2 6 v) w I L Q D) := congrArg some (hs_x rfl)
theorem g_2_7 : gI (MM n x w I L Q D) 2 5 7 = some (x 2 7) := rfl
theorem p_2_7 {v : Int32} : pV (MM n x w I L Q D) 2 5 7 (.int v) = some (MM n (s2 x 2 7 v) w I L Q D) := congrArg some (hs_x rfl)
theorem g_2_8 : gI (MM n x w I L Q D) 2 5 8 = some (x 2 8) := rfl
theorem p_2_8 {v : Int32} : pV (MM n x w I L Q D) 2 5 8 (.int v) = some (MM n (s2 x 2 8 v) w I L Q D) := congrArg some (hs_x rfl)
theorem o_0 : oK (MM n x w I L Q D) 0 6 = true := rfl
theorem r_0_0 : gR (MM n x w I L Q D) 0 6 0 = some 1 := rfl
theorem g_0_1 : gI (MM n x w I L Q D) 0 6 1 = some (x 0 1) := rfl
theorem p_0_1 {v : Int32} : pV (MM n x w I L Q D) 0 6 1 (.int v) = some (MM n (s2 x 0 1 v) w I L Q D) := congrArg some (hs_x rfl)
theorem r_0_2 : gR (MM n x w I L Q D) 0 6 2 = some 2 := rfl
theorem g_0_3 : gI (MM n x w I L Q D) 0 6 3 = some (x 0 3) := rfl
theorem p_0_3 {v : Int32} : pV (MM n x w I L Q D) 0 6 3 (.int v) = some (MM n (s2 x 0 3 v) w I L Q D) := congrArg some (hs_x rfl)
theorem r_0_4 : gR (MM n x w I L Q D) 0 6 4 = some 6 := rfl
theorem r_0_5 : gR (MM n x w I L Q D) 0 6 5 = some 8 := rfl
theorem r_0_6 : gR (MM n x w I L Q D) 0 6 6 = some 10 := rfl
theorem r_0_7 : gR (MM n x w I L Q D) 0 6 7 = some 12 := rfl
theorem r_0_8 : gR (MM n x w I L Q D) 0 6 8 = some 13 := rfl
theorem r_0_9 : gR (MM n x w I L Q D) 0 6 9 = some 14 := rfl
theorem r_0_10 : gR (MM n x w I L Q D) 0 6 10 = some 36 := rfl
theorem r_0_11 : gR (MM n x w I L Q D) 0 6 11 = some 38 := rfl
theorem r_0_12 : gR (MM n x w I L Q D) 0 6 12 = some 60 := rfl
theorem r_0_13 : gR (MM n x w I L Q D) 0 6 13 = some 63 := rfl
theorem o_64 : oK (MM n x w I L Q D) 64 7 = true := rfl
theorem g_64_0 : gI (MM n x w I L Q D) 64 7 0 = some (x 64 0) := rfl
theorem p_64_0 {v : Int32} : pV (MM n x w I L Q D) 64 7 0 (.int v) = some (MM n (s2 x 64 0 v) w I L Q D) := congrArg some (hs_x rfl)
theorem r_64_1 : gR (MM n x w I L Q D) 64 7 1 = some 65 := rfl
theorem g_64_2 : gI (MM n x w I L Q D) 64 7 2 = some (x 64 2) := rfl
theorem p_64_2 {v : Int32} : pV (MM n x w I L Q D) 64 7 2 (.int v) = some (MM n (s2 x 64 2 v) w I L Q D) := congrArg some (hs_x rfl)
theorem g_64_3 : gI (MM n x w I L Q D) 64 7 3 = some (x 64 3) := rfl
theorem p_64_3 {v : Int32} : pV (MM n x w I L Q D) 64 7 3 (.int v) = some (MM n (s2 x 64 3 v) w I L Q D) := congrArg some (hs_x rfl)
theorem g_64_4 : gI (MM n x w I L Q D) 64 7 4 = some (x 64 4) := rfl
theorem p_64_4 {v : Int32} : pV (MM n x w I L Q D) 64 7 4 (.int v) = some (MM n (s2 x 64 4 v) w I L Q D) := congrArg some (hs_x rfl)
theorem g_64_5 : gI (MM n x w I L Q D) 64 7 5 = some (x 64 5) := rfl
theorem p_64_5 {v : Int32} : pV (MM n x w I L Q D) 64 7 5 (.int v) = some (MM n (s2 x 64 5 v) w I L Q D) := congrArg some (hs_x rfl)
theorem g_64_6 : gI (MM n x w I L Q D) 64 7 6 = some (x 64 6) := rfl
theorem p_64_6 {v : Int32} : pV (MM n x w I L Q D) 64 7 6 (.int v) = some (MM n (s2 x 64 6 v) w I L Q D) := congrArg some (hs_x rfl)
theorem g_64_7 : gI (MM n x w I L Q D) 64 7 7 = some (x 64 7) := rfl
theorem p_64_7 {v : Int32} : pV (MM n x w I L Q D) 64 7 7 (.int v) = some (MM n (s2 x 64 7 v) w I L Q D) := congrArg some (hs_x rfl)
theorem g_64_8 : gI (MM n x w I L Q D) 64 7 8 = some (x 64 8) := rfl
theorem p_64_8 {v : Int32} : pV (MM n x w I L Q D) 64 7 8 (.int v) = some (MM n (s2 x 64 8 v) w I L Q D) := congrArg some (hs_x rfl)
theorem g_64_9 : gI (MM n x w I L Q D) 64 7 9 = some (x 64 9) := rfl
theorem p_64_9 {v : Int32} : pV (MM n x w I L Q D) 64 7 9 (.int v) = some (MM n (s2 x 64 9 v) w I L Q D) := congrArg some (hs_x rfl)
theorem l_64_10 : gL (MM n x w I L Q D) 64 7 10 = some w := rfl
theorem pl_64_10 {v : Int64} : pV (MM n x w I L Q D) 64 7 10 (.long v) = some (MM n x v I L Q D) := congrArg some (hs_w rfl)
theorem r_64_11 : gR (MM n x w I L Q D) 64 7 11 = some 66 := rfl
theorem r_64_12 : gR (MM n x w I L Q D) 64 7 12 = some 67 := rfl
theorem r_64_13 : gR (MM n x w I L Q D) 64 7 13 = some 68 := rfl
theorem r_64_14 : gR (MM n x w I L Q D) 64 7 14 = some 69 := rfl
theorem r_64_15 : gR (MM n x w I L Q D) 64 7 15 = some 70 := rfl
theorem r_64_16 : gR (MM n x w I L Q D) 64 7 16 = some 71 := rfl
theorem r_64_17 : gR (MM n x w I L Q D) 64 7 17 = some 72 := rfl
theorem r_64_18 : gR (MM n x w I L Q D) 64 7 18 = some 73 := rfl
theorem g_64_19 : gI (MM n x w I L Q D) 64 7 19 = some (x 64 19) := rfl
theorem p_64_19 {v : Int32} : pV (MM n x w I L Q D) 64 7 19 (.int v) = some (MM n (s2 x 64 19 v) w I L Q D) := congrArg some (hs_x rfl)
theorem r_64_20 : gR (MM n x w I L Q D) 64 7 20 = some 74 := rfl
theorem r_64_21 : gR (MM n x w I L Q D) 64 7 21 = some 75 := rfl
theorem r_64_22 : gR (MM n x w I L Q D) 64 7 22 = some 76 := rfl
theorem r_64_23 : gR (MM n x w I L Q D) 64 7 23 = some 77 := rfl
theorem g_64_24 : gI (MM n x w I L Q D) 64 7 24 = some (x 64 24) := rfl
theorem p_64_24 {v : Int32} : pV (MM n x w I L Q D) 64 7 24 (.int v) = some (MM n (s2 x 64 24 v) w I L Q D) := congrArg some (hs_x rfl)
theorem g_64_25 : gI (MM n x w I L Q D) 64 7 25 = some (x 64 25) := rfl
theorem p_64_25 {v : Int32} : pV (MM n x w I L Q D) 64 7 25 (.int v) = some (MM n (s2 x 64 25 v) w I L Q D) := congrArg some (hs_x rfl)
theorem g_64_26 : gI (MM n x w I L Q D) 64 7 26 = some (x 64 26) := rfl
theorem p_64_26 {v : Int32} : pV (MM n x w I L Q D) 64 7 26 (.int v) = some (MM n (s2 x 64 26 v) w I L Q D) := congrArg some (hs_x rfl)
theorem r_64_27 : gR (MM n x w I L Q D) 64 7 27 = some 78 := rfl
theorem g_64_28 : gI (MM n x w I L Q D) 64 7 28 = some (x 64 28) := rfl
theorem p_64_28 {v : Int32} : pV (MM n x w I L Q D) 64 7 28 (.int v) = some (MM n (s2 x 64 28 v) w I L Q D) := congrArg some (hs_x rfl)
theorem r_64_29 : gR (MM n x w I L Q D) 64 7 29 = some 79 := rfl
theorem g_64_30 : gI (MM n x w I L Q D) 64 7 30 = some (x 64 30) := rfl
theorem p_64_30 {v : Int32} : pV (MM n x w I L Q D) 64 7 30 (.int v) = some (MM n (s2 x 64 30 v) w I L Q D) := congrArg some (hs_x rfl)
end MEM
section MEMA
variable {n : Nat} {x : Nat → Nat → Int32} {w : Int64} {I : Nat → Nat → Int32} {L : Nat → Nat → Int64} {Q : Nat → Nat → Option Nat} {D : Nat → Bool}
theorem a_at {a kd len j : Nat} (hs : shp[a]? = some (kd, len)) (hk : kd = 0 ∨ kd = 1 ∨ kd = 3) (hj : j < len) (hl : len < 2 ^ 31) : aI (MM n x w I L Q D) kd a (nI j) = some (I a j) := by
  have hc : (MM n x w I L Q D).2 a = some (.inl (kd, len, .inl (I a))) := by
    show cel a _ _ _ _ _ _ _ = _
    unfold cel
    rw [hs]
    rcases hk with rfl | rfl | rfl <;> rfl
  unfold aI
  rw [hc]
  show (if kd = kd ∧ _ then _ else _) = _
  rw [if_pos ⟨rfl, vp_in_nI hj hl⟩, nI_clamp (by omega)]
theorem a_set {a kd len j : Nat} {v : Int32} (hs : shp[a]? = some (kd, len)) (hk : kd = 0 ∨ kd = 1 ∨ kd = 3) (hj : j < len) (hl : len < 2 ^ 31) : sI (MM n x w I L Q D) kd a (nI j) v = some (MM n x w (s2 I a j v) L Q D) := by
  have hc : (MM n x w I L Q D).2 a = some (.inl (kd, len, .inl (I a))) := by
    show cel a _ _ _ _ _ _ _ = _
    unfold cel
    rw [hs]
    rcases hk with rfl | rfl | rfl <;> rfl
  unfold sI
  rw [hc]
  show (if kd = kd ∧ _ then _ else _) = _
  rw [if_pos ⟨rfl, vp_in_nI hj hl⟩, nI_clamp (by omega)]
  refine congrArg some (hs_I ?_)
  unfold cel
  rw [hs]
  rcases hk with rfl | rfl | rfl <;> rfl
theorem l_at {a len j : Nat} (hs : shp[a]? = some (2, len)) (hj : j < len) (hl : len < 2 ^ 31) : aL (MM n x w I L Q D) a (nI j) = some (L a j) := by
  have hc : (MM n x w I L Q D).2 a = some (.inl (2, len, .inr (.inl (L a)))) := by
    show cel a _ _ _ _ _ _ _ = _
    unfold cel
    rw [hs]
    rfl
  unfold aL
  rw [hc]
  show (if 2 = 2 ∧ _ then _ else _) = _
  rw [if_pos ⟨rfl, vp_in_nI hj hl⟩, nI_clamp (by omega)]
theorem l_set {a len j : Nat} {v : Int64} (hs : shp[a]? = some (2, len)) (hj : j < len) (hl : len < 2 ^ 31) : sL (MM n x w I L Q D) a (nI j) v = some (MM n x w I (u1 L a (vp_updL (L a) j v)) Q D) := by
  have hc : (MM n x w I L Q D).2 a = some (.inl (2, len, .inr (.inl (L a)))) := by
    show cel a _ _ _ _ _ _ _ = _
    unfold cel
    rw [hs]
    rfl
  unfold sL
  rw [hc]
  show (if 2 = 2 ∧ _ then _ else _) = _
  rw [if_pos ⟨rfl, vp_in_nI hj hl⟩, nI_clamp (by omega)]
  refine congrArg some (hs_L ?_)
  unfold cel
  rw [hs]
  rfl
theorem n_1 : aN (MM n x w I L Q D) 1 = some 340 := rfl
theorem n_4 : aN (MM n x w I L Q D) 4 = some 16 := rfl
theorem n_5 : aN (MM n x w I L Q D) 5 = some 340 := rfl
theorem n_7 : aN (MM n x w I L Q D) 7 = some 16 := rfl
theorem n_9 : aN (MM n x w I L Q D) 9 = some 16 := rfl
theorem n_11 : aN (MM n x w I L Q D) 11 = some 8 := rfl
theorem n_12 : aN (MM n x w I L Q D) 12 = some 2 := rfl
theorem n_15 : aN (MM n x w I L Q D) 15 = some 19 := rfl
theorem n_16 : aN (MM n x w I L Q D) 16 = some 16 := rfl
theorem n_17 : aN (MM n x w I L Q D) 17 = some 10 := rfl
theorem n_19 : aN (MM n x w I L Q D) 19 = some 19 := rfl
theorem n_20 : aN (MM n x w I L Q D) 20 = some 19 := rfl
theorem n_21 : aN (MM n x w I L Q D) 21 = some 19 := rfl
theorem n_22 : aN (MM n x w I L Q D) 22 = some 19 := rfl
theorem n_23 : aN (MM n x w I L Q D) 23 = some 19 := rfl
theorem n_24 : aN (MM n x w I L Q D) 24 = some 19 := rfl
theorem n_25 : aN (MM n x w I L Q D) 25 = some 19 := rfl
theorem n_26 : aN (MM n x w I L Q D) 26 = some 19 := rfl
theorem n_27 : aN (MM n x w I L Q D) 27 = some 19 := rfl
theorem n_28 : aN (MM n x w I L Q D) 28 = some 19 := rfl
theorem n_29 : aN (MM n x w I L Q D) 29 = some 19 := rfl
theorem n_30 : aN (MM n x w I L Q D) 30 = some 19 := rfl
theorem n_31 : aN (MM n x w I L Q D) 31 = some 19 := rfl
theorem n_32 : aN (MM n x w I L Q D) 32 = some 19 := rfl
theorem n_33 : aN (MM n x w I L Q D) 33 = some 19 := rfl
theorem n_34 : aN (MM n x w I L Q D) 34 = some 19 := rfl
theorem n_35 : aN (MM n x w I L Q D) 35 = some 2656 := rfl
theorem n_37 : aN (MM n x w I L Q D) 37 = some 16 := rfl
theorem n_39 : aN (MM n x w I L Q D) 39 = some 19 := rfl
theorem n_40 : aN (MM n x w I L Q D) 40 = some 16 := rfl
theorem n_41 : aN (MM n x w I L Q D) 41 = some 10 := rfl
theorem n_43 : aN (MM n x w I L Q D) 43 = some 19 := rfl
theorem n_44 : aN (MM n x w I L Q D) 44 = some 19 := rfl
theorem n_45 : aN (MM n x w I L Q D) 45 = some 19 := rfl
theorem n_46 : aN (MM n x w I L Q D) 46 = some 19 := rfl
theorem n_47 : aN (MM n x w I L Q D) 47 = some 19 := rfl
theorem n_48 : aN (MM n x w I L Q D) 48 = some 19 := rfl
theorem n_49 : aN (MM n x w I L Q D) 49 = some 19 := rfl
theorem n_50 : aN (MM n x w I L Q D) 50 = some 19 := rfl
theorem n_51 : aN (MM n x w I L Q D) 51 = some 19 := rfl
theorem n_52 : aN (MM n x w I L Q D) 52 = some 19 := rfl
theorem n_53 : aN (MM n x w I L Q D) 53 = some 19 := rfl
theorem n_54 : aN (MM n x w I L Q D) 54 = some 19 := rfl
theorem n_55 : aN (MM n x w I L Q D) 55 = some 19 := rfl
theorem n_56 : aN (MM n x w I L Q D) 56 = some 19 := rfl
theorem n_57 : aN (MM n x w I L Q D) 57 = some 19 := rfl
theorem n_58 : aN (MM n x w I L Q D) 58 = some 19 := rfl
theorem n_59 : aN (MM n x w I L Q D) 59 = some 0 := rfl
theorem n_61 : aN (MM n x w I L Q D) 61 = some 122 := rfl
theorem n_62 : aN (MM n x w I L Q D) 62 = some 61 := rfl
theorem n_63 : aN (MM n x w I L Q D) 63 = some 19 := rfl
theorem n_65 : aN (MM n x w I L Q D) 65 = some 340 := rfl
theorem n_66 : aN (MM n x w I L Q D) 66 = some 19 := rfl
theorem n_67 : aN (MM n x w I L Q D) 67 = some 19 := rfl
theorem n_68 : aN (MM n x w I L Q D) 68 = some 38 := rfl
theorem n_69 : aN (MM n x w I L Q D) 69 = some 152 := rfl
theorem n_70 : aN (MM n x w I L Q D) 70 = some 19 := rfl
theorem n_71 : aN (MM n x w I L Q D) 71 = some 19 := rfl
theorem n_72 : aN (MM n x w I L Q D) 72 = some 19 := rfl
theorem n_73 : aN (MM n x w I L Q D) 73 = some 2 := rfl
theorem n_74 : aN (MM n x w I L Q D) 74 = some 18 := rfl
theorem n_75 : aN (MM n x w I L Q D) 75 = some 18 := rfl
theorem n_76 : aN (MM n x w I L Q D) 76 = some 18 := rfl
theorem n_77 : aN (MM n x w I L Q D) 77 = some 320 := rfl
theorem n_78 : aN (MM n x w I L Q D) 78 = some 121 := rfl
theorem n_79 : aN (MM n x w I L Q D) 79 = some 121 := rfl
theorem n_80 : aN (MM n x w I L Q D) 80 = some 1 := rfl
end MEMA
/-- where frames lie -/
def isF (D : Nat → Bool) (a : Nat) : Prop := a = 3 ∨ a = 6 ∨ a = 8 ∨ a = 36 ∨ (81 ≤ a ∧ D a = true ∧ D (a + 1) = false)
section MEMF
variable {n : Nat} {x : Nat → Nat → Int32} {w : Int64} {I : Nat → Nat → Int32} {L : Nat → Nat → Int64} {Q : Nat → Nat → Option Nat} {D : Nat → Bool} {a : Nat}
theorem shp_no {k : Nat} (h : 81 ≤ k) : shp[k]? = none := List.getElem?_eq_none (by show 81 ≤ k; exact h)
theorem f_c {X : Nat → Int32} {I9 : Nat → Int32} {L9 : Nat → Int64} {Q9 : Nat → Option Nat} {e : Bool} (h : isF D a) : cel a X w I9 L9 Q9 (D a) e = some (.inr (2, [.int (X 0), .int (X 1), .int (X 2), .ref (a + 1)])) := by
  rcases h with rfl | rfl | rfl | rfl | ⟨h1, h2, h3⟩
  · rfl
  · rfl
  · rfl
  · rfl
  · unfold cel; rw [shp_no h1, h2]; rfl
theorem f_p {X : Nat → Int32} {I9 : Nat → Int32} {L9 : Nat → Int64} {Q9 : Nat → Option Nat} (h : isF D a) : cel (a + 1) X w I9 L9 Q9 (D (a + 1)) (D a) = some (.inl (0, 16, .inl I9)) := by
  rcases h with rfl | rfl | rfl | rfl | ⟨h1, h2, h3⟩
  · rfl
  · rfl
  · rfl
  · rfl
  · unfold cel; rw [shp_no (by omega), h2, h3]; rfl
theorem F_o (h : isF D a) : oK (MM n x w I L Q D) a 2 = true := by
  unfold oK
  rw [show (MM n x w I L Q D).2 a = _ from f_c h]
  rfl
theorem F_g0 (h : isF D a) : gI (MM n x w I L Q D) a 2 0 = some (x a 0) := by
  unfold gI
  rw [show (MM n x w I L Q D).2 a = _ from f_c h]
  rfl
theorem F_s0 {v : Int32} (h : isF D a) : pV (MM n x w I L Q D) a 2 0 (.int v) = some (MM n (s2 x a 0 v) w I L Q D) := by
  unfold pV
  rw [show (MM n x w I L Q D).2 a = _ from f_c h]
  exact congrArg some (hs_x (f_c h))
theorem F_g1 (h : isF D a) : gI (MM n x w I L Q D) a 2 1 = some (x a 1) := by
  unfold gI
  rw [show (MM n x w I L Q D).2 a = _ from f_c h]
  rfl
theorem F_s1 {v : Int32} (h : isF D a) : pV (MM n x w I L Q D) a 2 1 (.int v) = some (MM n (s2 x a 1 v) w I L Q D) := by
  unfold pV
  rw [show (MM n x w I L Q D).2 a = _ from f_c h]
  exact congrArg some (hs_x (f_c h))
theorem F_g2 (h : isF D a) : gI (MM n x w I L Q D) a 2 2 = some (x a 2) := by
  unfold gI
  rw [show (MM n x w I L Q D).2 a = _ from f_c h]
  rfl
theorem F_s2 {v : Int32} (h : isF D a) : pV (MM n x w I L Q D) a 2 2 (.int v) = some (MM n (s2 x a 2 v) w I L Q D) := by
  unfold pV
  rw [show (MM n x w I L Q D).2 a = _ from f_c h]
  exact congrArg some (hs_x (f_c h))
theorem F_r (h : isF D a) : gR (MM n x w I L Q D) a 2 3 = some (a + 1) := by
  unfold gR
  rw [show (MM n x w I L Q D).2 a = _ from f_c h]
  rfl
theorem f_pn (h : isF D a) : (MM n x w I L Q D).2 (a + 1) = some (.inl (0, 16, .inl (I (a + 1)))) := f_p h
theorem F_a {j : Nat} (h : isF D a) (hj : j < 16) : aI (MM n x w I L Q D) 0 (a + 1) (nI j) = some (I (a + 1) j) := by
  unfold aI
  rw [f_pn h]
  show (if 0 = 0 ∧ _ then _ else _) = _
  rw [if_pos ⟨rfl, vp_in_nI hj (by decide)⟩, nI_clamp (by omega)]
theorem F_as {j : Nat} {v : Int32} (h : isF D a) (hj : j < 16) : sI (MM n x w I L Q D) 0 (a + 1) (nI j) v = some (MM n x w (s2 I (a + 1) j v) L Q D) := by
  unfold sI
  rw [f_pn h]
  show (if 0 = 0 ∧ _ then _ else _) = _
  rw [if_pos ⟨rfl, vp_in_nI hj (by decide)⟩, nI_clamp (by omega)]
  exact congrArg some (hs_I (f_p h))
theorem F_n (h : isF D a) : aN (MM n x w I L Q D) (a + 1) = some 16 := by
  unfold aN
  rw [f_pn h]
  rfl
end MEMF
