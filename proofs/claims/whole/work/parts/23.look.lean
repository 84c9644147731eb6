/-! X4_init -/
abbrev m_X4_init : MD := (cX4_init, RX4, "<init>", wsX4_init, 1, none)
theorem w9_X4_init_X4 : ∀ w ∈ u_ws RX4 TX4 3, w ∈ wsX4_init := by decide +kernel
theorem hd9_X4_init : yX4_init.cls = RX4 ∧ yX4_init.cls ≠ "java/lang/invoke/MethodHandle" ∧ yX4_init.cls ≠ "java/lang/invoke/VarHandle" ∧ (parseMethodDescriptor yX4_init.desc).map (fun d => d.parameters.length) = some 0 := by decide +kernel
def f_X4_init (h : Hp) (a0 : Nat) : Option Hp := (nA h 0 122 (122 : Int32)).bind fun x1 => (pV x1.2 a0 4 0 (.ref x1.1)).bind fun h2 => (nA h2 0 61 (61 : Int32)).bind fun x3 => (pV x3.2 a0 4 1 (.ref x3.1)).bind fun h4 => (pV h4 a0 4 2 (.int (-1 : Int32))).bind fun h5 => some h5
theorem hd8_X4_init : yX4_init.cls ≠ "java/lang/invoke/MethodHandle" ∧ yX4_init.cls ≠ "java/lang/invoke/VarHandle" ∧ (parseMethodDescriptor yX4_init.desc).map (fun d => d.parameters.length) = some 0 := hd9_X4_init.2
set_option maxHeartbeats 4000000 in
set_option maxRecDepth 100000 in
theorem t_X4_init {g : GT} {l : Launch} {h : Hp} {a0 : Nat} {r : Hp} (hf : f_X4_init h a0 = some r) : PM g l 1 2 183 yX4_init wsX4_init [.ref a0] h (fun r9 h9 => r9 = none ∧ h9 = r) := by
  refine pm_of (M := m_X4_init) (by decide) rfl rfl rfl (Nat.le_of_ble_eq_true rfl) (lo := [some (.ref a0)]) rfl ?_
  rw [f_X4_init] at hf
  refine pw_aload_n dX4_init_0 rfl ?_
  refine pw_obj (by decide +kernel) (by decide +kernel) (by decide +kernel) (by decide) (Nat.le_of_ble_eq_true rfl) dX4_init_1 ?_
  refine pw_aload_n dX4_init_4 rfl ?_
  refine pw_bipush (v := (122)) dX4_init_5 (by decide) ?_
  refine q_newa (kc2 := 1) (ks2 := 61) hf (by decide) rfl (by decide +kernel) (by decide) ⟨rfl, rfl⟩ dX4_init_7 (fun x1 hf => ?_)
  refine q_pVF (ty := .array .int) hf tyX4 tyX4_ok nmX4 rfl (by decide) w9_X4_init_X4 (by decide +kernel) rfl rfl rfl (by decide +kernel) rfl rfl dX4_init_9 (fun h2 hf => ?_)
  refine pw_aload_n dX4_init_12 rfl ?_
  refine pw_bipush (v := (61)) dX4_init_13 (by decide) ?_
  refine q_newa (kc2 := 0) (ks2 := 0) hf (by decide) rfl (by decide +kernel) (by decide) ⟨rfl, rfl⟩ dX4_init_15 (fun x3 hf => ?_)
  refine q_pVF (ty := .array .int) hf tyX4 tyX4_ok nmX4 rfl (by decide) w9_X4_init_X4 (by decide +kernel) rfl rfl rfl (by decide +kernel) rfl rfl dX4_init_17 (fun h4 hf => ?_)
  refine pw_aload_n dX4_init_20 rfl ?_
  refine pw_iconst (v := (-1)) dX4_init_21 (by decide) ?_
  refine q_pV (ty := .int) hf tyX4 tyX4_ok nmX4 rfl (by decide) w9_X4_init_X4 (by decide +kernel) rfl (by decide +kernel) rfl rfl dX4_init_22 (fun h5 hf => ?_)
  exact pw_vret rfl dX4_init_25 ⟨rfl, Option.some.inj hf⟩
/-! X4_clear -/
abbrev m_X4_clear : MD := (cX4_clear, RX4, "clear", wsX4_clear, 2, none)
theorem w9_X4_clear_X4 : ∀ w ∈ u_ws RX4 TX4 3, w ∈ wsX4_clear := by decide +kernel
theorem hd9_X4_clear : yX4_clear.cls = RX4 ∧ yX4_clear.cls ≠ "java/lang/invoke/MethodHandle" ∧ yX4_clear.cls ≠ "java/lang/invoke/VarHandle" ∧ (parseMethodDescriptor yX4_clear.desc).map (fun d => d.parameters.length) = some 1 := by decide +kernel
def f_X4_clear (h : Hp) (a0 : Nat) (a1 : Int32) : Option Hp := (gR h a0 4 0).bind fun x1 => (f_J7_fill_53178 h x1 (0 : Int32)).bind fun h2 => (gR h2 a0 4 1).bind fun x3 => (f_J7_fill_53178 h2 x3 (0 : Int32)).bind fun h4 => (gR h4 a0 4 0).bind fun x5 => (aN h4 x5).bind fun x6 => (pV h4 a0 4 2 (.int (if (x6 - (1 : Int32)) < a1 then (x6 - (1 : Int32)) else a1))).bind fun h7 => some h7
set_option maxHeartbeats 4000000 in
set_option maxRecDepth 100000 in
theorem t_X4_clear {g : GT} {l : Launch} {h : Hp} {a0 : Nat} {a1 : Int32} {r : Hp} (hf : f_X4_clear h a0 a1 = some r) : PM g l 2 0 0 yX4_clear wsX4_clear [.ref a0, .int a1] h (fun r9 h9 => r9 = none ∧ h9 = r) := by
  refine pm_of (M := m_X4_clear) (by decide) rfl rfl rfl (Nat.le_of_ble_eq_true rfl) (lo := [some (.ref a0), some (.int a1)]) rfl ?_
  rw [f_X4_clear] at hf
  refine pw_aload_n dX4_clear_0 rfl ?_
  refine q_gR hf rfl (by decide) w9_X4_clear_X4 (by decide +kernel) dX4_clear_1 (fun x1 hf => ?_)
  refine pw_iconst (v := (0)) dX4_clear_4 (by decide) ?_
  refine q_callS_v (kc2 := 0) (ks2 := 0) (as := [.ref x1, .int (0 : Int32)]) (rest := []) hf (fun x9 e9 => t_J7_fill_53178 e9) gX4_clear_J7_fill_53178 rfl hd9_J7_fill_53178 rfl ⟨(by decide), by decide⟩ ⟨rfl, rfl⟩ (Nat.le_of_ble_eq_true rfl) dX4_clear_5 rfl (fun h2 hf => ?_)
  refine pw_aload_n dX4_clear_8 rfl ?_
  refine q_gR hf rfl (by decide) w9_X4_clear_X4 (by decide +kernel) dX4_clear_9 (fun x3 hf => ?_)
  refine pw_iconst (v := (0)) dX4_clear_12 (by decide) ?_
  refine q_callS_v (kc2 := 0) (ks2 := 0) (as := [.ref x3, .int (0 : Int32)]) (rest := []) hf (fun x9 e9 => t_J7_fill_53178 e9) gX4_clear_J7_fill_53178 rfl hd9_J7_fill_53178 rfl ⟨(by decide), by decide⟩ ⟨rfl, rfl⟩ (Nat.le_of_ble_eq_true rfl) dX4_clear_13 rfl (fun h4 hf => ?_)
  refine pw_aload_n dX4_clear_16 rfl ?_
  refine pw_iload_n dX4_clear_17 rfl ?_
  refine pw_aload_n dX4_clear_18 rfl ?_
  refine q_gR hf rfl (by decide) w9_X4_clear_X4 (by decide +kernel) dX4_clear_19 (fun x5 hf => ?_)
  refine q_alen hf dX4_clear_22 (fun x6 hf => ?_)
  refine pw_iconst (v := (1)) dX4_clear_23 (by decide) ?_
  refine pw_isub dX4_clear_24 ?_
  refine pw_min (by decide +kernel) (by decide +kernel) (by decide +kernel) (by decide +kernel) (by decide) (Nat.le_of_ble_eq_true rfl) dX4_clear_25 ?_
  refine q_pV (ty := .int) hf tyX4 tyX4_ok nmX4 rfl (by decide) w9_X4_clear_X4 (by decide +kernel) rfl (by decide +kernel) rfl rfl dX4_clear_28 (fun h7 hf => ?_)
  exact pw_vret rfl dX4_clear_31 ⟨rfl, Option.some.inj hf⟩
/-! X4_take -/
abbrev m_X4_take : MD := (cX4_take, RX4, "take", wsX4_take, 5, none)
theorem w9_X4_take_X4 : ∀ w ∈ u_ws RX4 TX4 3, w ∈ wsX4_take := by decide +kernel
theorem hd9_X4_take : yX4_take.cls = RX4 ∧ yX4_take.cls ≠ "java/lang/invoke/MethodHandle" ∧ yX4_take.cls ≠ "java/lang/invoke/VarHandle" ∧ (parseMethodDescriptor yX4_take.desc).map (fun d => d.parameters.length) = some 2 := by decide +kernel
def f_X4_take_14 : Nat → Nat → Nat → Int32 → Hp → Option Hp
  | 0, _, _, _, _ => none
  | n + 1, v0, v1, v3, h => (gI h v0 4 2).bind fun x1 => if x1 < v3 then (some h) else ((aI h 0 v1 v3).bind fun x2 => (gR h v0 4 0).bind fun x3 => (sI h 0 x3 v3 x2).bind fun h4 => if x2 < (1 : Int32) then (f_X4_take_14 n v0 v1 (v3 + (1)) h4) else (if (60 : Int32) < x2 then (f_X4_take_14 n v0 v1 (v3 + (1)) h4) else ((gR h4 v0 4 1).bind fun x5 => (aI h4 0 x5 x2).bind fun x6 => if x6 = 0 then ((gR h4 v0 4 1).bind fun x7 => (sI h4 0 x7 x2 v3).bind fun h8 => f_X4_take_14 n v0 v1 (v3 + (1)) h8) else (f_X4_take_14 n v0 v1 (v3 + (1)) h4))))
set_option maxHeartbeats 4000000 in
set_option maxRecDepth 100000 in
theorem w_X4_take_14 {g : GT} {l : Launch} {r : Hp} : ∀ (n : Nat) (v0 : Nat) (v1 : Nat) (v3 : Int32) (h : Hp), f_X4_take_14 n v0 v1 v3 h = some r → PW g l m_X4_take 3 0 0 14 [some (.ref v0), some (.ref v1), none, some (.int v3), none] [] h (fun r9 h9 => r9 = none ∧ h9 = r) := by
  intro n
  induction n with
  | zero => intro v0 v1 v3 h hf; cases hf
  | succ n ih =>
    intro v0 v1 v3 h hf
    rw [f_X4_take_14] at hf
    refine pw_iload_n dX4_take_14 rfl ?_
    refine pw_aload_n dX4_take_15 rfl ?_
    refine q_gI hf rfl (by decide) w9_X4_take_X4 (by decide +kernel) dX4_take_16 (fun x1 hf => ?_)
    refine q_icmp_gt (tgt := 72) hf dX4_take_19 (by decide) (fun hf _ => ?_) (fun hf _ => ?_)
    · exact pw_vret rfl dX4_take_72 ⟨rfl, Option.some.inj hf⟩
    · refine pw_aload_n dX4_take_22 rfl ?_
      refine pw_iload_n dX4_take_23 rfl ?_
      refine q_iald hf dX4_take_24 (fun x2 hf => ?_)
      refine pw_istore dX4_take_25 (by decide) rfl ?_
      dsimp only [lset, lset2, clr]
      refine pw_aload_n dX4_take_27 rfl ?_
      refine q_gR hf rfl (by decide) w9_X4_take_X4 (by decide +kernel) dX4_take_28 (fun x3 hf => ?_)
      refine pw_iload_n dX4_take_31 rfl ?_
      refine pw_iload dX4_take_32 rfl ?_
      refine q_iast hf dX4_take_34 (fun h4 hf => ?_)
      refine pw_iload dX4_take_35 rfl ?_
      refine pw_iconst (v := (1)) dX4_take_37 (by decide) ?_
      refine q_icmp_lt (tgt := 66) hf dX4_take_38 (by decide) (fun hf _ => ?_) (fun hf _ => ?_)
      · refine pw_iinc (v := v3 + (1)) dX4_take_66 rfl rfl (by decide) rfl ?_
        dsimp only [lset, lset2, clr]
        refine pw_goto (tgt := 14) dX4_take_69 (by decide) ?_
        exact pw_lo (lle_s rfl (lle_s rfl (lle_n (lle_s rfl (lle_n lle_0))))) (ih _ _ _ _ hf)
      · refine pw_iload dX4_take_41 rfl ?_
        refine pw_bipush (v := (60)) dX4_take_43 (by decide) ?_
        refine q_icmp_gt (tgt := 66) hf dX4_take_45 (by decide) (fun hf _ => ?_) (fun hf _ => ?_)
        · refine pw_iinc (v := v3 + (1)) dX4_take_66 rfl rfl (by decide) rfl ?_
          dsimp only [lset, lset2, clr]
          refine pw_goto (tgt := 14) dX4_take_69 (by decide) ?_
          exact pw_lo (lle_s rfl (lle_s rfl (lle_n (lle_s rfl (lle_n lle_0))))) (ih _ _ _ _ hf)
        · refine pw_aload_n dX4_take_48 rfl ?_
          refine q_gR hf rfl (by decide) w9_X4_take_X4 (by decide +kernel) dX4_take_49 (fun x5 hf => ?_)
          refine pw_iload dX4_take_52 rfl ?_
          refine q_iald hf dX4_take_54 (fun x6 hf => ?_)
          refine q_if_ne (tgt := 66) hf dX4_take_55 (by decide) (fun hf _ => ?_) (fun hf _ => ?_)
          · refine pw_iinc (v := v3 + (1)) dX4_take_66 rfl rfl (by decide) rfl ?_
            dsimp only [lset, lset2, clr]
            refine pw_goto (tgt := 14) dX4_take_69 (by decide) ?_
            exact pw_lo (lle_s rfl (lle_s rfl (lle_n (lle_s rfl (lle_n lle_0))))) (ih _ _ _ _ hf)
          · refine pw_aload_n dX4_take_58 rfl ?_
            refine q_gR hf rfl (by decide) w9_X4_take_X4 (by decide +kernel) dX4_take_59 (fun x7 hf => ?_)
            refine pw_iload dX4_take_62 rfl ?_
            refine pw_iload_n dX4_take_64 rfl ?_
            refine q_iast hf dX4_take_65 (fun h8 hf => ?_)
            refine pw_iinc (v := v3 + (1)) dX4_take_66 rfl rfl (by decide) rfl ?_
            dsimp only [lset, lset2, clr]
            refine pw_goto (tgt := 14) dX4_take_69 (by decide) ?_
            exact pw_lo (lle_s rfl (lle_s rfl (lle_n (lle_s rfl (lle_n lle_0))))) (ih _ _ _ _ hf)
def f_X4_take (h : Hp) (a0 : Nat) (a1 : Nat) (a2 : Int32) : Option Hp := (aN h a1).bind fun x1 => if oK h a0 4 = true then (f_X4_clear h a0 (if (x1 - (1 : Int32)) < a2 then (x1 - (1 : Int32)) else a2)).bind fun h2 => f_X4_take_14 4096 a0 a1 (1 : Int32) h2 else none
set_option maxHeartbeats 4000000 in
set_option maxRecDepth 100000 in
theorem t_X4_take {g : GT} {l : Launch} {h : Hp} {a0 : Nat} {a1 : Nat} {a2 : Int32} {r : Hp} (hf : f_X4_take h a0 a1 a2 = some r) : PM g l 3 0 0 yX4_take wsX4_take [.ref a0, .ref a1, .int a2] h (fun r9 h9 => r9 = none ∧ h9 = r) := by
  refine pm_of (M := m_X4_take) (by decide) rfl rfl rfl (Nat.le_of_ble_eq_true rfl) (lo := [some (.ref a0), some (.ref a1), some (.int a2), none, none]) rfl ?_
  rw [f_X4_take] at hf
  refine pw_aload_n dX4_take_0 rfl ?_
  refine pw_iload_n dX4_take_1 rfl ?_
  refine pw_aload_n dX4_take_2 rfl ?_
  refine q_alen hf dX4_take_3 (fun x1 hf => ?_)
  refine pw_iconst (v := (1)) dX4_take_4 (by decide) ?_
  refine pw_isub dX4_take_5 ?_
  refine pw_min (by decide +kernel) (by decide +kernel) (by decide +kernel) (by decide +kernel) (by decide) (Nat.le_of_ble_eq_true rfl) dX4_take_6 ?_
  refine q_callV_v (kc2 := 0) (ks2 := 0) (as := [.int (if (x1 - (1 : Int32)) < a2 then (x1 - (1 : Int32)) else a2)]) (rest := []) hf (fun x9 e9 => t_X4_clear e9) gX4_take_X4_clear rfl hd9_X4_clear rfl rfl ⟨(by decide), by decide⟩ ⟨rfl, rfl⟩ (Nat.le_of_ble_eq_true rfl) dX4_take_9 rfl (fun h2 hf => ?_)
  refine pw_iconst (v := (1)) dX4_take_12 (by decide) ?_
  refine pw_istore_n dX4_take_13 (by decide) rfl ?_
  dsimp only [lset, lset2, clr]
  exact pw_lo (lle_s rfl (lle_s rfl (lle_n (lle_s rfl (lle_n lle_0))))) (w_X4_take_14 4096 _ _ _ _ hf)
/-! X4_numberAt -/
abbrev m_X4_numberAt : MD := (cX4_numberAt, RX4, "numberAt", wsX4_numberAt, 2, (some .int))
theorem w9_X4_numberAt_X4 : ∀ w ∈ u_ws RX4 TX4 3, w ∈ wsX4_numberAt := by decide +kernel
theorem hd9_X4_numberAt : yX4_numberAt.cls = RX4 ∧ yX4_numberAt.cls ≠ "java/lang/invoke/MethodHandle" ∧ yX4_numberAt.cls ≠ "java/lang/invoke/VarHandle" ∧ (parseMethodDescriptor yX4_numberAt.desc).map (fun d => d.parameters.length) = some 1 := by decide +kernel
def f_X4_numberAt (h : Hp) (a0 : Nat) (a1 : Int32) : Option Int32 := if a1 < (1 : Int32) then (some ((-1 : Int32))) else ((gI h a0 4 2).bind fun x1 => if x1 < a1 then (some ((-1 : Int32))) else ((gR h a0 4 0).bind fun x2 => (aI h 0 x2 a1).bind fun x3 => some (x3)))
set_option maxHeartbeats 4000000 in
set_option maxRecDepth 100000 in
theorem t_X4_numberAt {g : GT} {l : Launch} {h : Hp} {a0 : Nat} {a1 : Int32} {r : Int32} (hf : f_X4_numberAt h a0 a1 = some r) : PM g l 1 0 0 yX4_numberAt wsX4_numberAt [.ref a0, .int a1] h (fun r9 h9 => r9 = some (.int r) ∧ h9 = h) := by
  refine pm_of (M := m_X4_numberAt) (by decide) rfl rfl rfl (Nat.le_of_ble_eq_true rfl) (lo := [some (.ref a0), some (.int a1)]) rfl ?_
  rw [f_X4_numberAt] at hf
  refine pw_iload_n dX4_numberAt_0 rfl ?_
  refine pw_iconst (v := (1)) dX4_numberAt_1 (by decide) ?_
  refine q_icmp_lt (tgt := 22) hf dX4_numberAt_2 (by decide) (fun hf _ => ?_) (fun hf _ => ?_)
  · refine pw_iconst (v := (-1)) dX4_numberAt_22 (by decide) ?_
    exact pw_iret (x := (-1 : Int32)) rfl rfl dX4_numberAt_23 ⟨congrArg (fun z => some (Value.int z)) (Option.some.inj hf), rfl⟩
  · refine pw_iload_n dX4_numberAt_5 rfl ?_
    refine pw_aload_n dX4_numberAt_6 rfl ?_
    refine q_gI hf rfl (by decide) w9_X4_numberAt_X4 (by decide +kernel) dX4_numberAt_7 (fun x1 hf => ?_)
    refine q_icmp_gt (tgt := 22) hf dX4_numberAt_10 (by decide) (fun hf _ => ?_) (fun hf _ => ?_)
    · refine pw_iconst (v := (-1)) dX4_numberAt_22 (by decide) ?_
      exact pw_iret (x := (-1 : Int32)) rfl rfl dX4_numberAt_23 ⟨congrArg (fun z => some (Value.int z)) (Option.some.inj hf), rfl⟩
    · refine pw_aload_n dX4_numberAt_13 rfl ?_
      refine q_gR hf rfl (by decide) w9_X4_numberAt_X4 (by decide +kernel) dX4_numberAt_14 (fun x2 hf => ?_)
      refine pw_iload_n dX4_numberAt_17 rfl ?_
      refine q_iald hf dX4_numberAt_18 (fun x3 hf => ?_)
      refine pw_goto (tgt := 23) dX4_numberAt_19 (by decide) ?_
      exact pw_iret (x := x3) rfl rfl dX4_numberAt_23 ⟨congrArg (fun z => some (Value.int z)) (Option.some.inj hf), rfl⟩
/-! X4_firstOf -/
abbrev m_X4_firstOf : MD := (cX4_firstOf, RX4, "firstOf", wsX4_firstOf, 2, (some .int))
theorem w9_X4_firstOf_X4 : ∀ w ∈ u_ws RX4 TX4 3, w ∈ wsX4_firstOf := by decide +kernel
theorem hd9_X4_firstOf : yX4_firstOf.cls = RX4 ∧ yX4_firstOf.cls ≠ "java/lang/invoke/MethodHandle" ∧ yX4_firstOf.cls ≠ "java/lang/invoke/VarHandle" ∧ (parseMethodDescriptor yX4_firstOf.desc).map (fun d => d.parameters.length) = some 1 := by decide +kernel
def f_X4_firstOf (h : Hp) (a0 : Nat) (a1 : Int32) : Option Int32 := if a1 < (1 : Int32) then (some ((-1 : Int32))) else (if (60 : Int32) < a1 then (some ((-1 : Int32))) else ((gR h a0 4 1).bind fun x1 => (aI h 0 x1 a1).bind fun x2 => if x2 = 0 then (some ((-1 : Int32))) else ((gR h a0 4 1).bind fun x3 => (aI h 0 x3 a1).bind fun x4 => some (x4))))
set_option maxHeartbeats 4000000 in
set_option maxRecDepth 100000 in
theorem t_X4_firstOf {g : GT} {l : Launch} {h : Hp} {a0 : Nat} {a1 : Int32} {r : Int32} (hf : f_X4_firstOf h a0 a1 = some r) : PM g l 1 0 0 yX4_firstOf wsX4_firstOf [.ref a0, .int a1] h (fun r9 h9 => r9 = some (.int r) ∧ h9 = h) := by
  refine pm_of (M := m_X4_firstOf) (by decide) rfl rfl rfl (Nat.le_of_ble_eq_true rfl) (lo := [some (.ref a0), some (.int a1)]) rfl ?_
  rw [f_X4_firstOf] at hf
  refine pw_iload_n dX4_firstOf_0 rfl ?_
  refine pw_iconst (v := (1)) dX4_firstOf_1 (by decide) ?_
  refine q_icmp_lt (tgt := 29) hf dX4_firstOf_2 (by decide) (fun hf _ => ?_) (fun hf _ => ?_)
  · refine pw_iconst (v := (-1)) dX4_firstOf_29 (by decide) ?_
    exact pw_iret (x := (-1 : Int32)) rfl rfl dX4_firstOf_30 ⟨congrArg (fun z => some (Value.int z)) (Option.some.inj hf), rfl⟩
  · refine pw_iload_n dX4_firstOf_5 rfl ?_
    refine pw_bipush (v := (60)) dX4_firstOf_6 (by decide) ?_
    refine q_icmp_gt (tgt := 29) hf dX4_firstOf_8 (by decide) (fun hf _ => ?_) (fun hf _ => ?_)
    · refine pw_iconst (v := (-1)) dX4_firstOf_29 (by decide) ?_
      exact pw_iret (x := (-1 : Int32)) rfl rfl dX4_firstOf_30 ⟨congrArg (fun z => some (Value.int z)) (Option.some.inj hf), rfl⟩
    · refine pw_aload_n dX4_firstOf_11 rfl ?_
      refine q_gR hf rfl (by decide) w9_X4_firstOf_X4 (by decide +kernel) dX4_firstOf_12 (fun x1 hf => ?_)
      refine pw_iload_n dX4_firstOf_15 rfl ?_
      refine q_iald hf dX4_firstOf_16 (fun x2 hf => ?_)
      refine q_if_eq (tgt := 29) hf dX4_firstOf_17 (by decide) (fun hf _ => ?_) (fun hf _ => ?_)
      · refine pw_iconst (v := (-1)) dX4_firstOf_29 (by decide) ?_
        exact pw_iret (x := (-1 : Int32)) rfl rfl dX4_firstOf_30 ⟨congrArg (fun z => some (Value.int z)) (Option.some.inj hf), rfl⟩
      · refine pw_aload_n dX4_firstOf_20 rfl ?_
        refine q_gR hf rfl (by decide) w9_X4_firstOf_X4 (by decide +kernel) dX4_firstOf_21 (fun x3 hf => ?_)
        refine pw_iload_n dX4_firstOf_24 rfl ?_
        refine q_iald hf dX4_firstOf_25 (fun x4 hf => ?_)
        refine pw_goto (tgt := 30) dX4_firstOf_26 (by decide) ?_
        exact pw_iret (x := x4) rfl rfl dX4_firstOf_30 ⟨congrArg (fun z => some (Value.int z)) (Option.some.inj hf), rfl⟩
/-! X4_twin -/
abbrev m_X4_twin : MD := (cX4_twin, RX4, "twin", wsX4_twin, 4, none)
theorem w9_X4_twin_X4 : ∀ w ∈ u_ws RX4 TX4 3, w ∈ wsX4_twin := by decide +kernel
theorem hd9_X4_twin : yX4_twin.cls = RX4 ∧ yX4_twin.cls ≠ "java/lang/invoke/MethodHandle" ∧ yX4_twin.cls ≠ "java/lang/invoke/VarHandle" ∧ (parseMethodDescriptor yX4_twin.desc).map (fun d => d.parameters.length) = some 2 := by decide +kernel
def f_X4_twin (h : Hp) (a0 : Nat) (a1 : Int32) (a2 : Int32) : Option Hp := if a1 < (1 : Int32) then (some h) else ((gI h a0 4 2).bind fun x1 => if x1 < a2 then (some h) else (if (a2 - a1) < (1 : Int32) then (some h) else (if (a2 - a1) ≤ (60 : Int32) then ((gR h a0 4 0).bind fun x2 => (sI h 0 x2 a1 (a2 - a1)).bind fun h3 => (gR h3 a0 4 0).bind fun x4 => (sI h3 0 x4 a2 (a2 - a1)).bind fun h5 => (gR h5 a0 4 1).bind fun x6 => (sI h5 0 x6 (a2 - a1) a1).bind fun h7 => some h7) else (some h))))
set_option maxHeartbeats 4000000 in
set_option maxRecDepth 100000 in
theorem t_X4_twin {g : GT} {l : Launch} {h : Hp} {a0 : Nat} {a1 : Int32} {a2 : Int32} {r : Hp} (hf : f_X4_twin h a0 a1 a2 = some r) : PM g l 1 0 0 yX4_twin wsX4_twin [.ref a0, .int a1, .int a2] h (fun r9 h9 => r9 = none ∧ h9 = r) := by
  refine pm_of (M := m_X4_twin) (by decide) rfl rfl rfl (Nat.le_of_ble_eq_true rfl) (lo := [some (.ref a0), some (.int a1), some (.int a2), none]) rfl ?_
  rw [f_X4_twin] at hf
  refine pw_iload_n dX4_twin_0 rfl ?_
  refine pw_iload_n dX4_twin_1 rfl ?_
  refine pw_isub dX4_twin_2 ?_
  refine pw_istore_n dX4_twin_3 (by decide) rfl ?_
  dsimp only [lset, lset2, clr]
  refine pw_iload_n dX4_twin_4 rfl ?_
  refine pw_iconst (v := (1)) dX4_twin_5 (by decide) ?_
  refine q_icmp_lt (tgt := 28) hf dX4_twin_6 (by decide) (fun hf _ => ?_) (fun hf _ => ?_)
  · exact pw_vret rfl dX4_twin_28 ⟨rfl, Option.some.inj hf⟩
  · refine pw_iload_n dX4_twin_9 rfl ?_
    refine pw_aload_n dX4_twin_10 rfl ?_
    refine q_gI hf rfl (by decide) w9_X4_twin_X4 (by decide +kernel) dX4_twin_11 (fun x1 hf => ?_)
    refine q_icmp_gt (tgt := 28) hf dX4_twin_14 (by decide) (fun hf _ => ?_) (fun hf _ => ?_)
    · exact pw_vret rfl dX4_twin_28 ⟨rfl, Option.some.inj hf⟩
    · refine pw_iload_n dX4_twin_17 rfl ?_
      refine pw_iconst (v := (1)) dX4_twin_18 (by decide) ?_
      refine q_icmp_lt (tgt := 28) hf dX4_twin_19 (by decide) (fun hf _ => ?_) (fun hf _ => ?_)
      · exact pw_vret rfl dX4_twin_28 ⟨rfl, Option.some.inj hf⟩
      · refine pw_iload_n dX4_twin_22 rfl ?_
        refine pw_bipush (v := (60)) dX4_twin_23 (by decide) ?_
        refine q_icmp_le (tgt := 29) hf dX4_twin_25 (by decide) (fun hf _ => ?_) (fun hf _ => ?_)
        · refine pw_aload_n dX4_twin_29 rfl ?_
          refine q_gR hf rfl (by decide) w9_X4_twin_X4 (by decide +kernel) dX4_twin_30 (fun x2 hf => ?_)
          refine pw_iload_n dX4_twin_33 rfl ?_
          refine pw_iload_n dX4_twin_34 rfl ?_
          refine q_iast hf dX4_twin_35 (fun h3 hf => ?_)
          refine pw_aload_n dX4_twin_36 rfl ?_
          refine q_gR hf rfl (by decide) w9_X4_twin_X4 (by decide +kernel) dX4_twin_37 (fun x4 hf => ?_)
          refine pw_iload_n dX4_twin_40 rfl ?_
          refine pw_iload_n dX4_twin_41 rfl ?_
          refine q_iast hf dX4_twin_42 (fun h5 hf => ?_)
          refine pw_aload_n dX4_twin_43 rfl ?_
          refine q_gR hf rfl (by decide) w9_X4_twin_X4 (by decide +kernel) dX4_twin_44 (fun x6 hf => ?_)
          refine pw_iload_n dX4_twin_47 rfl ?_
          refine pw_iload_n dX4_twin_48 rfl ?_
          refine q_iast hf dX4_twin_49 (fun h7 hf => ?_)
          exact pw_vret rfl dX4_twin_50 ⟨rfl, Option.some.inj hf⟩
        · exact pw_vret rfl dX4_twin_28 ⟨rfl, Option.some.inj hf⟩
/-! X4_nest -/
abbrev m_X4_nest : MD := (cX4_nest, RX4, "nest", wsX4_nest, 6, none)
theorem hd9_X4_nest : yX4_nest.cls = RX4 ∧ yX4_nest.cls ≠ "java/lang/invoke/MethodHandle" ∧ yX4_nest.cls ≠ "java/lang/invoke/VarHandle" ∧ (parseMethodDescriptor yX4_nest.desc).map (fun d => d.parameters.length) = some 4 := by decide +kernel
def f_X4_nest_3 : Nat → Nat → Int32 → Int32 → Int32 → Int32 → Hp → Option Hp
  | 0, _, _, _, _, _, _ => none
  | n + 1, v0, v1, v2, v4, v5, h => if v4 < v5 then (some h) else (if oK h v0 4 = true then (f_X4_twin h v0 (v1 + v5) (v2 - v5)).bind fun h1 => f_X4_nest_3 n v0 v1 v2 v4 (v5 + (1)) h1 else none)
set_option maxHeartbeats 4000000 in
set_option maxRecDepth 100000 in
theorem w_X4_nest_3 {g : GT} {l : Launch} {r : Hp} : ∀ (n : Nat) (v0 : Nat) (v1 : Int32) (v2 : Int32) (v4 : Int32) (v5 : Int32) (h : Hp), f_X4_nest_3 n v0 v1 v2 v4 v5 h = some r → PW g l m_X4_nest 2 0 0 3 [some (.ref v0), some (.int v1), some (.int v2), none, some (.int v4), some (.int v5)] [] h (fun r9 h9 => r9 = none ∧ h9 = r) := by
  intro n
  induction n with
  | zero => intro v0 v1 v2 v4 v5 h hf; cases hf
  | succ n ih =>
    intro v0 v1 v2 v4 v5 h hf
    rw [f_X4_nest_3] at hf
    refine pw_iload dX4_nest_3 rfl ?_
    refine pw_iload dX4_nest_5 rfl ?_
    refine q_icmp_gt (tgt := 28) hf dX4_nest_7 (by decide) (fun hf _ => ?_) (fun hf _ => ?_)
    · exact pw_vret rfl dX4_nest_28 ⟨rfl, Option.some.inj hf⟩
    · refine pw_aload_n dX4_nest_10 rfl ?_
      refine pw_iload_n dX4_nest_11 rfl ?_
      refine pw_iload dX4_nest_12 rfl ?_
      refine pw_iadd dX4_nest_14 ?_
      refine pw_iload_n dX4_nest_15 rfl ?_
      refine pw_iload dX4_nest_16 rfl ?_
      refine pw_isub dX4_nest_18 ?_
      refine q_callV_v (kc2 := 0) (ks2 := 0) (as := [.int (v1 + v5), .int (v2 - v5)]) (rest := []) hf (fun x9 e9 => t_X4_twin e9) gX4_nest_X4_twin rfl hd9_X4_twin rfl rfl ⟨(by decide), by decide⟩ ⟨rfl, rfl⟩ (Nat.le_of_ble_eq_true rfl) dX4_nest_19 rfl (fun h1 hf => ?_)
      refine pw_iinc (v := v5 + (1)) dX4_nest_22 rfl rfl (by decide) rfl ?_
      dsimp only [lset, lset2, clr]
      refine pw_goto (tgt := 3) dX4_nest_25 (by decide) ?_
      exact pw_lo (lle_s rfl (lle_s rfl (lle_s rfl (lle_n (lle_s rfl (lle_s rfl lle_0)))))) (ih _ _ _ _ _ _ hf)
def f_X4_nest (h : Hp) (a0 : Nat) (a1 : Int32) (a2 : Int32) (a3 : Int32) (a4 : Int32) : Option Hp := f_X4_nest_3 4096 a0 a1 a2 a4 a3 h
set_option maxHeartbeats 4000000 in
set_option maxRecDepth 100000 in
theorem t_X4_nest {g : GT} {l : Launch} {h : Hp} {a0 : Nat} {a1 : Int32} {a2 : Int32} {a3 : Int32} {a4 : Int32} {r : Hp} (hf : f_X4_nest h a0 a1 a2 a3 a4 = some r) : PM g l 2 0 0 yX4_nest wsX4_nest [.ref a0, .int a1, .int a2, .int a3, .int a4] h (fun r9 h9 => r9 = none ∧ h9 = r) := by
  refine pm_of (M := m_X4_nest) (by decide) rfl rfl rfl (Nat.le_of_ble_eq_true rfl) (lo := [some (.ref a0), some (.int a1), some (.int a2), some (.int a3), some (.int a4), none]) rfl ?_
  rw [f_X4_nest] at hf
  refine pw_iload_n dX4_nest_0 rfl ?_
  refine pw_istore dX4_nest_1 (by decide) rfl ?_
  dsimp only [lset, lset2, clr]
  exact pw_lo (lle_s rfl (lle_s rfl (lle_s rfl (lle_n (lle_s rfl (lle_s rfl lle_0)))))) (w_X4_nest_3 4096 _ _ _ _ _ _ hf)
/-! X4_makeLeaving0 -/
abbrev m_X4_makeLeaving0 : MD := (cX4_makeLeaving0, RX4, "makeLeaving0", wsX4_makeLeaving0, 2, none)
theorem hd9_X4_makeLeaving0 : yX4_makeLeaving0.cls = RX4 ∧ yX4_makeLeaving0.cls ≠ "java/lang/invoke/MethodHandle" ∧ yX4_makeLeaving0.cls ≠ "java/lang/invoke/VarHandle" ∧ (parseMethodDescriptor yX4_makeLeaving0.desc).map (fun d => d.parameters.length) = some 1 := by decide +kernel
def f_X4_makeLeaving0 (h : Hp) (a0 : Nat) (a1 : Int32) : Option Hp := if oK h a0 4 = true then (f_X4_nest h a0 ((4 : Int32) * a1) ((8 : Int32) * a1) (0 : Int32) (((2 : Int32) * a1) - (1 : Int32))).bind fun h1 => if oK h1 a0 4 = true then (f_X4_twin h1 a0 a1 (a1 + (1 : Int32))).bind fun h2 => if oK h2 a0 4 = true then (f_X4_nest h2 a0 (a1 + (2 : Int32)) (((3 : Int32) * a1) - (1 : Int32)) (0 : Int32) (a1 - (3 : Int32))).bind fun h3 => if oK h3 a0 4 = true then (f_X4_nest h3 a0 (0 : Int32) (((4 : Int32) * a1) - (1 : Int32)) (1 : Int32) (a1 - (1 : Int32))).bind fun h4 => if oK h4 a0 4 = true then (f_X4_twin h4 a0 (((2 : Int32) * a1) + (1 : Int32)) ((6 : Int32) * a1)).bind fun h5 => if oK h5 a0 4 = true then (f_X4_twin h5 a0 ((2 : Int32) * a1) (((4 : Int32) * a1) - (1 : Int32))).bind fun h6 => some h6 else none else none else none else none else none else none
set_option maxHeartbeats 4000000 in
set_option maxRecDepth 100000 in
theorem t_X4_makeLeaving0 {g : GT} {l : Launch} {h : Hp} {a0 : Nat} {a1 : Int32} {r : Hp} (hf : f_X4_makeLeaving0 h a0 a1 = some r) : PM g l 3 0 0 yX4_makeLeaving0 wsX4_makeLeaving0 [.ref a0, .int a1] h (fun r9 h9 => r9 = none ∧ h9 = r) := by
  refine pm_of (M := m_X4_makeLeaving0) (by decide) rfl rfl rfl (Nat.le_of_ble_eq_true rfl) (lo := [some (.ref a0), some (.int a1)]) rfl ?_
  rw [f_X4_makeLeaving0] at hf
  refine pw_aload_n dX4_makeLeaving0_0 rfl ?_
  refine pw_iconst (v := (4)) dX4_makeLeaving0_1 (by decide) ?_
  refine pw_iload_n dX4_makeLeaving0_2 rfl ?_
  refine pw_imul dX4_makeLeaving0_3 ?_
  refine pw_bipush (v := (8)) dX4_makeLeaving0_4 (by decide) ?_
  refine pw_iload_n dX4_makeLeaving0_6 rfl ?_
  refine pw_imul dX4_makeLeaving0_7 ?_
  refine pw_iconst (v := (0)) dX4_makeLeaving0_8 (by decide) ?_
  refine pw_iconst (v := (2)) dX4_makeLeaving0_9 (by decide) ?_
  refine pw_iload_n dX4_makeLeaving0_10 rfl ?_
  refine pw_imul dX4_makeLeaving0_11 ?_
  refine pw_iconst (v := (1)) dX4_makeLeaving0_12 (by decide) ?_
  refine pw_isub dX4_makeLeaving0_13 ?_
  refine q_callV_v (kc2 := 0) (ks2 := 0) (as := [.int ((4 : Int32) * a1), .int ((8 : Int32) * a1), .int (0 : Int32), .int (((2 : Int32) * a1) - (1 : Int32))]) (rest := []) hf (fun x9 e9 => t_X4_nest e9) gX4_makeLeaving0_X4_nest rfl hd9_X4_nest rfl rfl ⟨(by decide), by decide⟩ ⟨rfl, rfl⟩ (Nat.le_of_ble_eq_true rfl) dX4_makeLeaving0_14 rfl (fun h1 hf => ?_)
  refine pw_aload_n dX4_makeLeaving0_17 rfl ?_
  refine pw_iload_n dX4_makeLeaving0_18 rfl ?_
  refine pw_iload_n dX4_makeLeaving0_19 rfl ?_
  refine pw_iconst (v := (1)) dX4_makeLeaving0_20 (by decide) ?_
  refine pw_iadd dX4_makeLeaving0_21 ?_
  refine q_callV_v (kc2 := 0) (ks2 := 0) (as := [.int a1, .int (a1 + (1 : Int32))]) (rest := []) hf (fun x9 e9 => t_X4_twin e9) gX4_makeLeaving0_X4_twin rfl hd9_X4_twin rfl rfl ⟨(by decide), by decide⟩ ⟨rfl, rfl⟩ (Nat.le_of_ble_eq_true rfl) dX4_makeLeaving0_22 rfl (fun h2 hf => ?_)
  refine pw_aload_n dX4_makeLeaving0_25 rfl ?_
  refine pw_iload_n dX4_makeLeaving0_26 rfl ?_
  refine pw_iconst (v := (2)) dX4_makeLeaving0_27 (by decide) ?_
  refine pw_iadd dX4_makeLeaving0_28 ?_
  refine pw_iconst (v := (3)) dX4_makeLeaving0_29 (by decide) ?_
  refine pw_iload_n dX4_makeLeaving0_30 rfl ?_
  refine pw_imul dX4_makeLeaving0_31 ?_
  refine pw_iconst (v := (1)) dX4_makeLeaving0_32 (by decide) ?_
  refine pw_isub dX4_makeLeaving0_33 ?_
  refine pw_iconst (v := (0)) dX4_makeLeaving0_34 (by decide) ?_
  refine pw_iload_n dX4_makeLeaving0_35 rfl ?_
  refine pw_iconst (v := (3)) dX4_makeLeaving0_36 (by decide) ?_
  refine pw_isub dX4_makeLeaving0_37 ?_
  refine q_callV_v (kc2 := 0) (ks2 := 0) (as := [.int (a1 + (2 : Int32)), .int (((3 : Int32) * a1) - (1 : Int32)), .int (0 : Int32), .int (a1 - (3 : Int32))]) (rest := []) hf (fun x9 e9 => t_X4_nest e9) gX4_makeLeaving0_X4_nest rfl hd9_X4_nest rfl rfl ⟨(by decide), by decide⟩ ⟨rfl, rfl⟩ (Nat.le_of_ble_eq_true rfl) dX4_makeLeaving0_38 rfl (fun h3 hf => ?_)
  refine pw_aload_n dX4_makeLeaving0_41 rfl ?_
  refine pw_iconst (v := (0)) dX4_makeLeaving0_42 (by decide) ?_
  refine pw_iconst (v := (4)) dX4_makeLeaving0_43 (by decide) ?_
  refine pw_iload_n dX4_makeLeaving0_44 rfl ?_
  refine pw_imul dX4_makeLeaving0_45 ?_
  refine pw_iconst (v := (1)) dX4_makeLeaving0_46 (by decide) ?_
  refine pw_isub dX4_makeLeaving0_47 ?_
  refine pw_iconst (v := (1)) dX4_makeLeaving0_48 (by decide) ?_
  refine pw_iload_n dX4_makeLeaving0_49 rfl ?_
  refine pw_iconst (v := (1)) dX4_makeLeaving0_50 (by decide) ?_
  refine pw_isub dX4_makeLeaving0_51 ?_
  refine q_callV_v (kc2 := 0) (ks2 := 0) (as := [.int (0 : Int32), .int (((4 : Int32) * a1) - (1 : Int32)), .int (1 : Int32), .int (a1 - (1 : Int32))]) (rest := []) hf (fun x9 e9 => t_X4_nest e9) gX4_makeLeaving0_X4_nest rfl hd9_X4_nest rfl rfl ⟨(by decide), by decide⟩ ⟨rfl, rfl⟩ (Nat.le_of_ble_eq_true rfl) dX4_makeLeaving0_52 rfl (fun h4 hf => ?_)
  refine pw_aload_n dX4_makeLeaving0_55 rfl ?_
  refine pw_iconst (v := (2)) dX4_makeLeaving0_56 (by decide) ?_
  refine pw_iload_n dX4_makeLeaving0_57 rfl ?_
  refine pw_imul dX4_makeLeaving0_58 ?_
  refine pw_iconst (v := (1)) dX4_makeLeaving0_59 (by decide) ?_
  refine pw_iadd dX4_makeLeaving0_60 ?_
  refine pw_bipush (v := (6)) dX4_makeLeaving0_61 (by decide) ?_
  refine pw_iload_n dX4_makeLeaving0_63 rfl ?_
  refine pw_imul dX4_makeLeaving0_64 ?_
  refine q_callV_v (kc2 := 0) (ks2 := 0) (as := [.int (((2 : Int32) * a1) + (1 : Int32)), .int ((6 : Int32) * a1)]) (rest := []) hf (fun x9 e9 => t_X4_twin e9) gX4_makeLeaving0_X4_twin rfl hd9_X4_twin rfl rfl ⟨(by decide), by decide⟩ ⟨rfl, rfl⟩ (Nat.le_of_ble_eq_true rfl) dX4_makeLeaving0_65 rfl (fun h5 hf => ?_)
  refine pw_aload_n dX4_makeLeaving0_68 rfl ?_
  refine pw_iconst (v := (2)) dX4_makeLeaving0_69 (by decide) ?_
  refine pw_iload_n dX4_makeLeaving0_70 rfl ?_
  refine pw_imul dX4_makeLeaving0_71 ?_
  refine pw_iconst (v := (4)) dX4_makeLeaving0_72 (by decide) ?_
  refine pw_iload_n dX4_makeLeaving0_73 rfl ?_
  refine pw_imul dX4_makeLeaving0_74 ?_
  refine pw_iconst (v := (1)) dX4_makeLeaving0_75 (by decide) ?_
  refine pw_isub dX4_makeLeaving0_76 ?_
  refine q_callV_v (kc2 := 0) (ks2 := 0) (as := [.int ((2 : Int32) * a1), .int (((4 : Int32) * a1) - (1 : Int32))]) (rest := []) hf (fun x9 e9 => t_X4_twin e9) gX4_makeLeaving0_X4_twin rfl hd9_X4_twin rfl rfl ⟨(by decide), by decide⟩ ⟨rfl, rfl⟩ (Nat.le_of_ble_eq_true rfl) dX4_makeLeaving0_77 rfl (fun h6 hf => ?_)
  exact pw_vret rfl dX4_makeLeaving0_80 ⟨rfl, Option.some.inj hf⟩
/-! X4_makeLeaving1 -/
abbrev m_X4_makeLeaving1 : MD := (cX4_makeLeaving1, RX4, "makeLeaving1", wsX4_makeLeaving1, 2, none)
theorem hd9_X4_makeLeaving1 : yX4_makeLeaving1.cls = RX4 ∧ yX4_makeLeaving1.cls ≠ "java/lang/invoke/MethodHandle" ∧ yX4_makeLeaving1.cls ≠ "java/lang/invoke/VarHandle" ∧ (parseMethodDescriptor yX4_makeLeaving1.desc).map (fun d => d.parameters.length) = some 1 := by decide +kernel
def f_X4_makeLeaving1 (h : Hp) (a0 : Nat) (a1 : Int32) : Option Hp := if oK h a0 4 = true then (f_X4_nest h a0 (((4 : Int32) * a1) + (2 : Int32)) (((8 : Int32) * a1) + (2 : Int32)) (0 : Int32) (((2 : Int32) * a1) - (1 : Int32))).bind fun h1 => if oK h1 a0 4 = true then (f_X4_nest h1 a0 (0 : Int32) (((4 : Int32) * a1) + (1 : Int32)) (1 : Int32) a1).bind fun h2 => if oK h2 a0 4 = true then (f_X4_twin h2 a0 (((2 : Int32) * a1) + (1 : Int32)) (((6 : Int32) * a1) + (2 : Int32))).bind fun h3 => if oK h3 a0 4 = true then (f_X4_twin h3 a0 (((2 : Int32) * a1) + (2 : Int32)) (((4 : Int32) * a1) + (1 : Int32))).bind fun h4 => if oK h4 a0 4 = true then (f_X4_twin h4 a0 (a1 + (1 : Int32)) (a1 + (2 : Int32))).bind fun h5 => if oK h5 a0 4 = true then (f_X4_nest h5 a0 (a1 + (2 : Int32)) (((3 : Int32) * a1) + (1 : Int32)) (1 : Int32) (a1 - (2 : Int32))).bind fun h6 => some h6 else none else none else none else none else none else none
set_option maxHeartbeats 4000000 in
set_option maxRecDepth 100000 in
theorem t_X4_makeLeaving1 {g : GT} {l : Launch} {h : Hp} {a0 : Nat} {a1 : Int32} {r : Hp} (hf : f_X4_makeLeaving1 h a0 a1 = some r) : PM g l 3 0 0 yX4_makeLeaving1 wsX4_makeLeaving1 [.ref a0, .int a1] h (fun r9 h9 => r9 = none ∧ h9 = r) := by
  refine pm_of (M := m_X4_makeLeaving1) (by decide) rfl rfl rfl (Nat.le_of_ble_eq_true rfl) (lo := [some (.ref a0), some (.int a1)]) rfl ?_
  rw [f_X4_makeLeaving1] at hf
  refine pw_aload_n dX4_makeLeaving1_0 rfl ?_
  refine pw_iconst (v := (4)) dX4_makeLeaving1_1 (by decide) ?_
  refine pw_iload_n dX4_makeLeaving1_2 rfl ?_
  refine pw_imul dX4_makeLeaving1_3 ?_
  refine pw_iconst (v := (2)) dX4_makeLeaving1_4 (by decide) ?_
  refine pw_iadd dX4_makeLeaving1_5 ?_
  refine pw_bipush (v := (8)) dX4_makeLeaving1_6 (by decide) ?_
  refine pw_iload_n dX4_makeLeaving1_8 rfl ?_
  refine pw_imul dX4_makeLeaving1_9 ?_
  refine pw_iconst (v := (2)) dX4_makeLeaving1_10 (by decide) ?_
  refine pw_iadd dX4_makeLeaving1_11 ?_
  refine pw_iconst (v := (0)) dX4_makeLeaving1_12 (by decide) ?_
  refine pw_iconst (v := (2)) dX4_makeLeaving1_13 (by decide) ?_
  refine pw_iload_n dX4_makeLeaving1_14 rfl ?_
  refine pw_imul dX4_makeLeaving1_15 ?_
  refine pw_iconst (v := (1)) dX4_makeLeaving1_16 (by decide) ?_
  refine pw_isub dX4_makeLeaving1_17 ?_
  refine q_callV_v (kc2 := 0) (ks2 := 0) (as := [.int (((4 : Int32) * a1) + (2 : Int32)), .int (((8 : Int32) * a1) + (2 : Int32)), .int (0 : Int32), .int (((2 : Int32) * a1) - (1 : Int32))]) (rest := []) hf (fun x9 e9 => t_X4_nest e9) gX4_makeLeaving1_X4_nest rfl hd9_X4_nest rfl rfl ⟨(by decide), by decide⟩ ⟨rfl, rfl⟩ (Nat.le_of_ble_eq_true rfl) dX4_makeLeaving1_18 rfl (fun h1 hf => ?_)
  refine pw_aload_n dX4_makeLeaving1_21 rfl ?_
  refine pw_iconst (v := (0)) dX4_makeLeaving1_22 (by decide) ?_
  refine pw_iconst (v := (4)) dX4_makeLeaving1_23 (by decide) ?_
  refine pw_iload_n dX4_makeLeaving1_24 rfl ?_
  refine pw_imul dX4_makeLeaving1_25 ?_
  refine pw_iconst (v := (1)) dX4_makeLeaving1_26 (by decide) ?_
  refine pw_iadd dX4_makeLeaving1_27 ?_
  refine pw_iconst (v := (1)) dX4_makeLeaving1_28 (by decide) ?_
  refine pw_iload_n dX4_makeLeaving1_29 rfl ?_
  refine q_callV_v (kc2 := 0) (ks2 := 0) (as := [.int (0 : Int32), .int (((4 : Int32) * a1) + (1 : Int32)), .int (1 : Int32), .int a1]) (rest := []) hf (fun x9 e9 => t_X4_nest e9) gX4_makeLeaving1_X4_nest rfl hd9_X4_nest rfl rfl ⟨(by decide), by decide⟩ ⟨rfl, rfl⟩ (Nat.le_of_ble_eq_true rfl) dX4_makeLeaving1_30 rfl (fun h2 hf => ?_)
  refine pw_aload_n dX4_makeLeaving1_33 rfl ?_
  refine pw_iconst (v := (2)) dX4_makeLeaving1_34 (by decide) ?_
  refine pw_iload_n dX4_makeLeaving1_35 rfl ?_
  refine pw_imul dX4_makeLeaving1_36 ?_
  refine pw_iconst (v := (1)) dX4_makeLeaving1_37 (by decide) ?_
  refine pw_iadd dX4_makeLeaving1_38 ?_
  refine pw_bipush (v := (6)) dX4_makeLeaving1_39 (by decide) ?_
  refine pw_iload_n dX4_makeLeaving1_41 rfl ?_
  refine pw_imul dX4_makeLeaving1_42 ?_
  refine pw_iconst (v := (2)) dX4_makeLeaving1_43 (by decide) ?_
  refine pw_iadd dX4_makeLeaving1_44 ?_
  refine q_callV_v (kc2 := 0) (ks2 := 0) (as := [.int (((2 : Int32) * a1) + (1 : Int32)), .int (((6 : Int32) * a1) + (2 : Int32))]) (rest := []) hf (fun x9 e9 => t_X4_twin e9) gX4_makeLeaving1_X4_twin rfl hd9_X4_twin rfl rfl ⟨(by decide), by decide⟩ ⟨rfl, rfl⟩ (Nat.le_of_ble_eq_true rfl) dX4_makeLeaving1_45 rfl (fun h3 hf => ?_)
  refine pw_aload_n dX4_makeLeaving1_48 rfl ?_
  refine pw_iconst (v := (2)) dX4_makeLeaving1_49 (by decide) ?_
  refine pw_iload_n dX4_makeLeaving1_50 rfl ?_
  refine pw_imul dX4_makeLeaving1_51 ?_
  refine pw_iconst (v := (2)) dX4_makeLeaving1_52 (by decide) ?_
  refine pw_iadd dX4_makeLeaving1_53 ?_
  refine pw_iconst (v := (4)) dX4_makeLeaving1_54 (by decide) ?_
  refine pw_iload_n dX4_makeLeaving1_55 rfl ?_
  refine pw_imul dX4_makeLeaving1_56 ?_
  refine pw_iconst (v := (1)) dX4_makeLeaving1_57 (by decide) ?_
  refine pw_iadd dX4_makeLeaving1_58 ?_
  refine q_callV_v (kc2 := 0) (ks2 := 0) (as := [.int (((2 : Int32) * a1) + (2 : Int32)), .int (((4 : Int32) * a1) + (1 : Int32))]) (rest := []) hf (fun x9 e9 => t_X4_twin e9) gX4_makeLeaving1_X4_twin rfl hd9_X4_twin rfl rfl ⟨(by decide), by decide⟩ ⟨rfl, rfl⟩ (Nat.le_of_ble_eq_true rfl) dX4_makeLeaving1_59 rfl (fun h4 hf => ?_)
  refine pw_aload_n dX4_makeLeaving1_62 rfl ?_
  refine pw_iload_n dX4_makeLeaving1_63 rfl ?_
  refine pw_iconst (v := (1)) dX4_makeLeaving1_64 (by decide) ?_
  refine pw_iadd dX4_makeLeaving1_65 ?_
  refine pw_iload_n dX4_makeLeaving1_66 rfl ?_
  refine pw_iconst (v := (2)) dX4_makeLeaving1_67 (by decide) ?_
  refine pw_iadd dX4_makeLeaving1_68 ?_
  refine q_callV_v (kc2 := 0) (ks2 := 0) (as := [.int (a1 + (1 : Int32)), .int (a1 + (2 : Int32))]) (rest := []) hf (fun x9 e9 => t_X4_twin e9) gX4_makeLeaving1_X4_twin rfl hd9_X4_twin rfl rfl ⟨(by decide), by decide⟩ ⟨rfl, rfl⟩ (Nat.le_of_ble_eq_true rfl) dX4_makeLeaving1_69 rfl (fun h5 hf => ?_)
  refine pw_aload_n dX4_makeLeaving1_72 rfl ?_
  refine pw_iload_n dX4_makeLeaving1_73 rfl ?_
  refine pw_iconst (v := (2)) dX4_makeLeaving1_74 (by decide) ?_
  refine pw_iadd dX4_makeLeaving1_75 ?_
  refine pw_iconst (v := (3)) dX4_makeLeaving1_76 (by decide) ?_
  refine pw_iload_n dX4_makeLeaving1_77 rfl ?_
  refine pw_imul dX4_makeLeaving1_78 ?_
  refine pw_iconst (v := (1)) dX4_makeLeaving1_79 (by decide) ?_
  refine pw_iadd dX4_makeLeaving1_80 ?_
  refine pw_iconst (v := (1)) dX4_makeLeaving1_81 (by decide) ?_
  refine pw_iload_n dX4_makeLeaving1_82 rfl ?_
  refine pw_iconst (v := (2)) dX4_makeLeaving1_83 (by decide) ?_
  refine pw_isub dX4_makeLeaving1_84 ?_
  refine q_callV_v (kc2 := 0) (ks2 := 0) (as := [.int (a1 + (2 : Int32)), .int (((3 : Int32) * a1) + (1 : Int32)), .int (1 : Int32), .int (a1 - (2 : Int32))]) (rest := []) hf (fun x9 e9 => t_X4_nest e9) gX4_makeLeaving1_X4_nest rfl hd9_X4_nest rfl rfl ⟨(by decide), by decide⟩ ⟨rfl, rfl⟩ (Nat.le_of_ble_eq_true rfl) dX4_makeLeaving1_85 rfl (fun h6 hf => ?_)
  exact pw_vret rfl dX4_makeLeaving1_88 ⟨rfl, Option.some.inj hf⟩
/-! X4_makeLeaving2 -/
abbrev m_X4_makeLeaving2 : MD := (cX4_makeLeaving2, RX4, "makeLeaving2", wsX4_makeLeaving2, 2, none)
theorem hd9_X4_makeLeaving2 : yX4_makeLeaving2.cls = RX4 ∧ yX4_makeLeaving2.cls ≠ "java/lang/invoke/MethodHandle" ∧ yX4_makeLeaving2.cls ≠ "java/lang/invoke/VarHandle" ∧ (parseMethodDescriptor yX4_makeLeaving2.desc).map (fun d => d.parameters.length) = some 1 := by decide +kernel
def f_X4_makeLeaving2 (h : Hp) (a0 : Nat) (a1 : Int32) : Option Hp := if oK h a0 4 = true then (f_X4_nest h a0 (0 : Int32) (((4 : Int32) * a1) + (2 : Int32)) (1 : Int32) ((2 : Int32) * a1)).bind fun h1 => if oK h1 a0 4 = true then (f_X4_twin h1 a0 (((2 : Int32) * a1) + (1 : Int32)) (((6 : Int32) * a1) + (2 : Int32))).bind fun h2 => if oK h2 a0 4 = true then (f_X4_twin h2 a0 (((4 : Int32) * a1) + (2 : Int32)) (((6 : Int32) * a1) + (3 : Int32))).bind fun h3 => if oK h3 a0 4 = true then (f_X4_twin h3 a0 (((4 : Int32) * a1) + (3 : Int32)) (((8 : Int32) * a1) + (5 : Int32))).bind fun h4 => if oK h4 a0 4 = true then (f_X4_nest h4 a0 (((4 : Int32) * a1) + (3 : Int32)) (((8 : Int32) * a1) + (4 : Int32)) (1 : Int32) (a1 - (1 : Int32))).bind fun h5 => if oK h5 a0 4 = true then (f_X4_nest h5 a0 (((5 : Int32) * a1) + (2 : Int32)) (((7 : Int32) * a1) + (3 : Int32)) (1 : Int32) (a1 - (1 : Int32))).bind fun h6 => if oK h6 a0 4 = true then (f_X4_twin h6 a0 (((7 : Int32) * a1) + (3 : Int32)) (((7 : Int32) * a1) + (4 : Int32))).bind fun h7 => some h7 else none else none else none else none else none else none else none
set_option maxHeartbeats 4000000 in
set_option maxRecDepth 100000 in
theorem t_X4_makeLeaving2 {g : GT} {l : Launch} {h : Hp} {a0 : Nat} {a1 : Int32} {r : Hp} (hf : f_X4_makeLeaving2 h a0 a1 = some r) : PM g l 3 0 0 yX4_makeLeaving2 wsX4_makeLeaving2 [.ref a0, .int a1] h (fun r9 h9 => r9 = none ∧ h9 = r) := by
  refine pm_of (M := m_X4_makeLeaving2) (by decide) rfl rfl rfl (Nat.le_of_ble_eq_true rfl) (lo := [some (.ref a0), some (.int a1)]) rfl ?_
  rw [f_X4_makeLeaving2] at hf
  refine pw_aload_n dX4_makeLeaving2_0 rfl ?_
  refine pw_iconst (v := (0)) dX4_makeLeaving2_1 (by decide) ?_
  refine pw_iconst (v := (4)) dX4_makeLeaving2_2 (by decide) ?_
  refine pw_iload_n dX4_makeLeaving2_3 rfl ?_
  refine pw_imul dX4_makeLeaving2_4 ?_
  refine pw_iconst (v := (2)) dX4_makeLeaving2_5 (by decide) ?_
  refine pw_iadd dX4_makeLeaving2_6 ?_
  refine pw_iconst (v := (1)) dX4_makeLeaving2_7 (by decide) ?_
  refine pw_iconst (v := (2)) dX4_makeLeaving2_8 (by decide) ?_
  refine pw_iload_n dX4_makeLeaving2_9 rfl ?_
  refine pw_imul dX4_makeLeaving2_10 ?_
  refine q_callV_v (kc2 := 0) (ks2 := 0) (as := [.int (0 : Int32), .int (((4 : Int32) * a1) + (2 : Int32)), .int (1 : Int32), .int ((2 : Int32) * a1)]) (rest := []) hf (fun x9 e9 => t_X4_nest e9) gX4_makeLeaving2_X4_nest rfl hd9_X4_nest rfl rfl ⟨(by decide), by decide⟩ ⟨rfl, rfl⟩ (Nat.le_of_ble_eq_true rfl) dX4_makeLeaving2_11 rfl (fun h1 hf => ?_)
  refine pw_aload_n dX4_makeLeaving2_14 rfl ?_
  refine pw_iconst (v := (2)) dX4_makeLeaving2_15 (by decide) ?_
  refine pw_iload_n dX4_makeLeaving2_16 rfl ?_
  refine pw_imul dX4_makeLeaving2_17 ?_
  refine pw_iconst (v := (1)) dX4_makeLeaving2_18 (by decide) ?_
  refine pw_iadd dX4_makeLeaving2_19 ?_
  refine pw_bipush (v := (6)) dX4_makeLeaving2_20 (by decide) ?_
  refine pw_iload_n dX4_makeLeaving2_22 rfl ?_
  refine pw_imul dX4_makeLeaving2_23 ?_
  refine pw_iconst (v := (2)) dX4_makeLeaving2_24 (by decide) ?_
  refine pw_iadd dX4_makeLeaving2_25 ?_
  refine q_callV_v (kc2 := 0) (ks2 := 0) (as := [.int (((2 : Int32) * a1) + (1 : Int32)), .int (((6 : Int32) * a1) + (2 : Int32))]) (rest := []) hf (fun x9 e9 => t_X4_twin e9) gX4_makeLeaving2_X4_twin rfl hd9_X4_twin rfl rfl ⟨(by decide), by decide⟩ ⟨rfl, rfl⟩ (Nat.le_of_ble_eq_true rfl) dX4_makeLeaving2_26 rfl (fun h2 hf => ?_)
  refine pw_aload_n dX4_makeLeaving2_29 rfl ?_
  refine pw_iconst (v := (4)) dX4_makeLeaving2_30 (by decide) ?_
  refine pw_iload_n dX4_makeLeaving2_31 rfl ?_
  refine pw_imul dX4_makeLeaving2_32 ?_
  refine pw_iconst (v := (2)) dX4_makeLeaving2_33 (by decide) ?_
  refine pw_iadd dX4_makeLeaving2_34 ?_
  refine pw_bipush (v := (6)) dX4_makeLeaving2_35 (by decide) ?_
  refine pw_iload_n dX4_makeLeaving2_37 rfl ?_
  refine pw_imul dX4_makeLeaving2_38 ?_
  refine pw_iconst (v := (3)) dX4_makeLeaving2_39 (by decide) ?_
  refine pw_iadd dX4_makeLeaving2_40 ?_
  refine q_callV_v (kc2 := 0) (ks2 := 0) (as := [.int (((4 : Int32) * a1) + (2 : Int32)), .int (((6 : Int32) * a1) + (3 : Int32))]) (rest := []) hf (fun x9 e9 => t_X4_twin e9) gX4_makeLeaving2_X4_twin rfl hd9_X4_twin rfl rfl ⟨(by decide), by decide⟩ ⟨rfl, rfl⟩ (Nat.le_of_ble_eq_true rfl) dX4_makeLeaving2_41 rfl (fun h3 hf => ?_)
  refine pw_aload_n dX4_makeLeaving2_44 rfl ?_
  refine pw_iconst (v := (4)) dX4_makeLeaving2_45 (by decide) ?_
  refine pw_iload_n dX4_makeLeaving2_46 rfl ?_
  refine pw_imul dX4_makeLeaving2_47 ?_
  refine pw_iconst (v := (3)) dX4_makeLeaving2_48 (by decide) ?_
  refine pw_iadd dX4_makeLeaving2_49 ?_
  refine pw_bipush (v := (8)) dX4_makeLeaving2_50 (by decide) ?_
  refine pw_iload_n dX4_makeLeaving2_52 rfl ?_
  refine pw_imul dX4_makeLeaving2_53 ?_
  refine pw_iconst (v := (5)) dX4_makeLeaving2_54 (by decide) ?_
  refine pw_iadd dX4_makeLeaving2_55 ?_
  refine q_callV_v (kc2 := 0) (ks2 := 0) (as := [.int (((4 : Int32) * a1) + (3 : Int32)), .int (((8 : Int32) * a1) + (5 : Int32))]) (rest := []) hf (fun x9 e9 => t_X4_twin e9) gX4_makeLeaving2_X4_twin rfl hd9_X4_twin rfl rfl ⟨(by decide), by decide⟩ ⟨rfl, rfl⟩ (Nat.le_of_ble_eq_true rfl) dX4_makeLeaving2_56 rfl (fun h4 hf => ?_)
  refine pw_aload_n dX4_makeLeaving2_59 rfl ?_
  refine pw_iconst (v := (4)) dX4_makeLeaving2_60 (by decide) ?_
  refine pw_iload_n dX4_makeLeaving2_61 rfl ?_
  refine pw_imul dX4_makeLeaving2_62 ?_
  refine pw_iconst (v := (3)) dX4_makeLeaving2_63 (by decide) ?_
  refine pw_iadd dX4_makeLeaving2_64 ?_
  refine pw_bipush (v := (8)) dX4_makeLeaving2_65 (by decide) ?_
  refine pw_iload_n dX4_makeLeaving2_67 rfl ?_
  refine pw_imul dX4_makeLeaving2_68 ?_
  refine pw_iconst (v := (4)) dX4_makeLeaving2_69 (by decide) ?_
  refine pw_iadd dX4_makeLeaving2_70 ?_
  refine pw_iconst (v := (1)) dX4_makeLeaving2_71 (by decide) ?_
  refine pw_iload_n dX4_makeLeaving2_72 rfl ?_
  refine pw_iconst (v := (1)) dX4_makeLeaving2_73 (by decide) ?_
  refine pw_isub dX4_makeLeaving2_74 ?_
  refine q_callV_v (kc2 := 0) (ks2 := 0) (as := [.int (((4 : Int32) * a1) + (3 : Int32)), .int (((8 : Int32) * a1) + (4 : Int32)), .int (1 : Int32), .int (a1 - (1 : Int32))]) (rest := []) hf (fun x9 e9 => t_X4_nest e9) gX4_makeLeaving2_X4_nest rfl hd9_X4_nest rfl rfl ⟨(by decide), by decide⟩ ⟨rfl, rfl⟩ (Nat.le_of_ble_eq_true rfl) dX4_makeLeaving2_75 rfl (fun h5 hf => ?_)
  refine pw_aload_n dX4_makeLeaving2_78 rfl ?_
  refine pw_iconst (v := (5)) dX4_makeLeaving2_79 (by decide) ?_
  refine pw_iload_n dX4_makeLeaving2_80 rfl ?_
  refine pw_imul dX4_makeLeaving2_81 ?_
  refine pw_iconst (v := (2)) dX4_makeLeaving2_82 (by decide) ?_
  refine pw_iadd dX4_makeLeaving2_83 ?_
  refine pw_bipush (v := (7)) dX4_makeLeaving2_84 (by decide) ?_
  refine pw_iload_n dX4_makeLeaving2_86 rfl ?_
  refine pw_imul dX4_makeLeaving2_87 ?_
  refine pw_iconst (v := (3)) dX4_makeLeaving2_88 (by decide) ?_
  refine pw_iadd dX4_makeLeaving2_89 ?_
  refine pw_iconst (v := (1)) dX4_makeLeaving2_90 (by decide) ?_
  refine pw_iload_n dX4_makeLeaving2_91 rfl ?_
  refine pw_iconst (v := (1)) dX4_makeLeaving2_92 (by decide) ?_
  refine pw_isub dX4_makeLeaving2_93 ?_
  refine q_callV_v (kc2 := 0) (ks2 := 0) (as := [.int (((5 : Int32) * a1) + (2 : Int32)), .int (((7 : Int32) * a1) + (3 : Int32)), .int (1 : Int32), .int (a1 - (1 : Int32))]) (rest := []) hf (fun x9 e9 => t_X4_nest e9) gX4_makeLeaving2_X4_nest rfl hd9_X4_nest rfl rfl ⟨(by decide), by decide⟩ ⟨rfl, rfl⟩ (Nat.le_of_ble_eq_true rfl) dX4_makeLeaving2_94 rfl (fun h6 hf => ?_)
  refine pw_aload_n dX4_makeLeaving2_97 rfl ?_
  refine pw_bipush (v := (7)) dX4_makeLeaving2_98 (by decide) ?_
  refine pw_iload_n dX4_makeLeaving2_100 rfl ?_
  refine pw_imul dX4_makeLeaving2_101 ?_
  refine pw_iconst (v := (3)) dX4_makeLeaving2_102 (by decide) ?_
  refine pw_iadd dX4_makeLeaving2_103 ?_
  refine pw_bipush (v := (7)) dX4_makeLeaving2_104 (by decide) ?_
  refine pw_iload_n dX4_makeLeaving2_106 rfl ?_
  refine pw_imul dX4_makeLeaving2_107 ?_
  refine pw_iconst (v := (4)) dX4_makeLeaving2_108 (by decide) ?_
  refine pw_iadd dX4_makeLeaving2_109 ?_
  refine q_callV_v (kc2 := 0) (ks2 := 0) (as := [.int (((7 : Int32) * a1) + (3 : Int32)), .int (((7 : Int32) * a1) + (4 : Int32))]) (rest := []) hf (fun x9 e9 => t_X4_twin e9) gX4_makeLeaving2_X4_twin rfl hd9_X4_twin rfl rfl ⟨(by decide), by decide⟩ ⟨rfl, rfl⟩ (Nat.le_of_ble_eq_true rfl) dX4_makeLeaving2_110 rfl (fun h7 hf => ?_)
  exact pw_vret rfl dX4_makeLeaving2_113 ⟨rfl, Option.some.inj hf⟩
/-! X4_make -/
abbrev m_X4_make : MD := (cX4_make, RX4, "make", wsX4_make, 3, none)
theorem hd9_X4_make : yX4_make.cls = RX4 ∧ yX4_make.cls ≠ "java/lang/invoke/MethodHandle" ∧ yX4_make.cls ≠ "java/lang/invoke/VarHandle" ∧ (parseMethodDescriptor yX4_make.desc).map (fun d => d.parameters.length) = some 1 := by decide +kernel
def f_X4_make (h : Hp) (a0 : Nat) (a1 : Int32) : Option Hp := if (a1 - a1 / (4 : Int32) * (4 : Int32)) = (2 : Int32) then (if oK h a0 4 = true then (f_X4_clear h a0 (((2 : Int32) * a1) + (1 : Int32))).bind fun h5 => if (a1 - a1 / (4 : Int32) * (4 : Int32)) = 0 then (if oK h5 a0 4 = true then (f_X4_makeLeaving0 h5 a0 (a1 / (4 : Int32))).bind fun h8 => some h8 else none) else (if (a1 - a1 / (4 : Int32) * (4 : Int32)) = (1 : Int32) then (if oK h5 a0 4 = true then (f_X4_makeLeaving1 h5 a0 (a1 / (4 : Int32))).bind fun h7 => some h7 else none) else (if oK h5 a0 4 = true then (f_X4_makeLeaving2 h5 a0 (a1 / (4 : Int32))).bind fun h6 => some h6 else none)) else none) else (if oK h a0 4 = true then (f_X4_clear h a0 ((2 : Int32) * a1)).bind fun h1 => if (a1 - a1 / (4 : Int32) * (4 : Int32)) = 0 then (if oK h1 a0 4 = true then (f_X4_makeLeaving0 h1 a0 (a1 / (4 : Int32))).bind fun h4 => some h4 else none) else (if (a1 - a1 / (4 : Int32) * (4 : Int32)) = (1 : Int32) then (if oK h1 a0 4 = true then (f_X4_makeLeaving1 h1 a0 (a1 / (4 : Int32))).bind fun h3 => some h3 else none) else (if oK h1 a0 4 = true then (f_X4_makeLeaving2 h1 a0 (a1 / (4 : Int32))).bind fun h2 => some h2 else none)) else none)
set_option maxHeartbeats 4000000 in
set_option maxRecDepth 100000 in
theorem t_X4_make {g : GT} {l : Launch} {h : Hp} {a0 : Nat} {a1 : Int32} {r : Hp} (hf : f_X4_make h a0 a1 = some r) : PM g l 4 0 0 yX4_make wsX4_make [.ref a0, .int a1] h (fun r9 h9 => r9 = none ∧ h9 = r) := by
  refine pm_of (M := m_X4_make) (by decide) rfl rfl rfl (Nat.le_of_ble_eq_true rfl) (lo := [some (.ref a0), some (.int a1), none]) rfl ?_
  rw [f_X4_make] at hf
  refine pw_iload_n dX4_make_0 rfl ?_
  refine pw_iconst (v := (4)) dX4_make_1 (by decide) ?_
  refine pw_idiv dX4_make_2 (by decide) ?_
  refine pw_istore_n dX4_make_3 (by decide) rfl ?_
  dsimp only [lset, lset2, clr]
  refine pw_aload_n dX4_make_4 rfl ?_
  refine pw_iload_n dX4_make_5 rfl ?_
  refine pw_iconst (v := (4)) dX4_make_6 (by decide) ?_
  refine pw_irem dX4_make_7 (by decide) ?_
  refine pw_iconst (v := (2)) dX4_make_8 (by decide) ?_
  refine q_icmp_ne (tgt := 20) hf dX4_make_9 (by decide) (fun hf _ => ?_) (fun hf _ => ?_)
  · refine pw_iconst (v := (2)) dX4_make_20 (by decide) ?_
    refine pw_iload_n dX4_make_21 rfl ?_
    refine pw_imul dX4_make_22 ?_
    refine q_callV_v (kc2 := 0) (ks2 := 0) (as := [.int ((2 : Int32) * a1)]) (rest := []) hf (fun x9 e9 => t_X4_clear e9) gX4_make_X4_clear rfl hd9_X4_clear rfl rfl ⟨(by decide), by decide⟩ ⟨rfl, rfl⟩ (Nat.le_of_ble_eq_true rfl) dX4_make_23 rfl (fun h1 hf => ?_)
    refine pw_iload_n dX4_make_26 rfl ?_
    refine pw_iconst (v := (4)) dX4_make_27 (by decide) ?_
    refine pw_irem dX4_make_28 (by decide) ?_
    refine q_if_ne (tgt := 40) hf dX4_make_29 (by decide) (fun hf _ => ?_) (fun hf _ => ?_)
    · refine pw_iload_n dX4_make_40 rfl ?_
      refine pw_iconst (v := (4)) dX4_make_41 (by decide) ?_
      refine pw_irem dX4_make_42 (by decide) ?_
      refine pw_iconst (v := (1)) dX4_make_43 (by decide) ?_
      refine q_icmp_ne (tgt := 55) hf dX4_make_44 (by decide) (fun hf _ => ?_) (fun hf _ => ?_)
      · refine pw_aload_n dX4_make_55 rfl ?_
        refine pw_iload_n dX4_make_56 rfl ?_
        refine q_callV_v (kc2 := 0) (ks2 := 0) (as := [.int (a1 / (4 : Int32))]) (rest := []) hf (fun x9 e9 => t_X4_makeLeaving2 e9) gX4_make_X4_makeLeaving2 rfl hd9_X4_makeLeaving2 rfl rfl ⟨(by decide), by decide⟩ ⟨rfl, rfl⟩ (Nat.le_of_ble_eq_true rfl) dX4_make_57 rfl (fun h2 hf => ?_)
        exact pw_vret rfl dX4_make_60 ⟨rfl, Option.some.inj hf⟩
      · refine pw_aload_n dX4_make_47 rfl ?_
        refine pw_iload_n dX4_make_48 rfl ?_
        refine q_callV_v (kc2 := 0) (ks2 := 0) (as := [.int (a1 / (4 : Int32))]) (rest := []) hf (fun x9 e9 => t_X4_makeLeaving1 e9) gX4_make_X4_makeLeaving1 rfl hd9_X4_makeLeaving1 rfl rfl ⟨(by decide), by decide⟩ ⟨rfl, rfl⟩ (Nat.le_of_ble_eq_true rfl) dX4_make_49 rfl (fun h3 hf => ?_)
        refine pw_goto (tgt := 60) dX4_make_52 (by decide) ?_
        exact pw_vret rfl dX4_make_60 ⟨rfl, Option.some.inj hf⟩
    · refine pw_aload_n dX4_make_32 rfl ?_
      refine pw_iload_n dX4_make_33 rfl ?_
      refine q_callV_v (kc2 := 0) (ks2 := 0) (as := [.int (a1 / (4 : Int32))]) (rest := []) hf (fun x9 e9 => t_X4_makeLeaving0 e9) gX4_make_X4_makeLeaving0 rfl hd9_X4_makeLeaving0 rfl rfl ⟨(by decide), by decide⟩ ⟨rfl, rfl⟩ (Nat.le_of_ble_eq_true rfl) dX4_make_34 rfl (fun h4 hf => ?_)
      refine pw_goto (tgt := 60) dX4_make_37 (by decide) ?_
      exact pw_vret rfl dX4_make_60 ⟨rfl, Option.some.inj hf⟩
  · refine pw_iconst (v := (2)) dX4_make_12 (by decide) ?_
    refine pw_iload_n dX4_make_13 rfl ?_
    refine pw_imul dX4_make_14 ?_
    refine pw_iconst (v := (1)) dX4_make_15 (by decide) ?_
    refine pw_iadd dX4_make_16 ?_
    refine pw_goto (tgt := 23) dX4_make_17 (by decide) ?_
    refine q_callV_v (kc2 := 0) (ks2 := 0) (as := [.int (((2 : Int32) * a1) + (1 : Int32))]) (rest := []) hf (fun x9 e9 => t_X4_clear e9) gX4_make_X4_clear rfl hd9_X4_clear rfl rfl ⟨(by decide), by decide⟩ ⟨rfl, rfl⟩ (Nat.le_of_ble_eq_true rfl) dX4_make_23 rfl (fun h5 hf => ?_)
    refine pw_iload_n dX4_make_26 rfl ?_
    refine pw_iconst (v := (4)) dX4_make_27 (by decide) ?_
    refine pw_irem dX4_make_28 (by decide) ?_
    refine q_if_ne (tgt := 40) hf dX4_make_29 (by decide) (fun hf _ => ?_) (fun hf _ => ?_)
    · refine pw_iload_n dX4_make_40 rfl ?_
      refine pw_iconst (v := (4)) dX4_make_41 (by decide) ?_
      refine pw_irem dX4_make_42 (by decide) ?_
      refine pw_iconst (v := (1)) dX4_make_43 (by decide) ?_
      refine q_icmp_ne (tgt := 55) hf dX4_make_44 (by decide) (fun hf _ => ?_) (fun hf _ => ?_)
      · refine pw_aload_n dX4_make_55 rfl ?_
        refine pw_iload_n dX4_make_56 rfl ?_
        refine q_callV_v (kc2 := 0) (ks2 := 0) (as := [.int (a1 / (4 : Int32))]) (rest := []) hf (fun x9 e9 => t_X4_makeLeaving2 e9) gX4_make_X4_makeLeaving2 rfl hd9_X4_makeLeaving2 rfl rfl ⟨(by decide), by decide⟩ ⟨rfl, rfl⟩ (Nat.le_of_ble_eq_true rfl) dX4_make_57 rfl (fun h6 hf => ?_)
        exact pw_vret rfl dX4_make_60 ⟨rfl, Option.some.inj hf⟩
      · refine pw_aload_n dX4_make_47 rfl ?_
        refine pw_iload_n dX4_make_48 rfl ?_
        refine q_callV_v (kc2 := 0) (ks2 := 0) (as := [.int (a1 / (4 : Int32))]) (rest := []) hf (fun x9 e9 => t_X4_makeLeaving1 e9) gX4_make_X4_makeLeaving1 rfl hd9_X4_makeLeaving1 rfl rfl ⟨(by decide), by decide⟩ ⟨rfl, rfl⟩ (Nat.le_of_ble_eq_true rfl) dX4_make_49 rfl (fun h7 hf => ?_)
        refine pw_goto (tgt := 60) dX4_make_52 (by decide) ?_
        exact pw_vret rfl dX4_make_60 ⟨rfl, Option.some.inj hf⟩
    · refine pw_aload_n dX4_make_32 rfl ?_
      refine pw_iload_n dX4_make_33 rfl ?_
      refine q_callV_v (kc2 := 0) (ks2 := 0) (as := [.int (a1 / (4 : Int32))]) (rest := []) hf (fun x9 e9 => t_X4_makeLeaving0 e9) gX4_make_X4_makeLeaving0 rfl hd9_X4_makeLeaving0 rfl rfl ⟨(by decide), by decide⟩ ⟨rfl, rfl⟩ (Nat.le_of_ble_eq_true rfl) dX4_make_34 rfl (fun h8 hf => ?_)
      refine pw_goto (tgt := 60) dX4_make_37 (by decide) ?_
      exact pw_vret rfl dX4_make_60 ⟨rfl, Option.some.inj hf⟩
/-! X4_ringOrder -/
abbrev m_X4_ringOrder : MD := (cX4_ringOrder, RX4, "ringOrder", wsX4_ringOrder, 6, (some .int))
theorem w9_X4_ringOrder_X4 : ∀ w ∈ u_ws RX4 TX4 3, w ∈ wsX4_ringOrder := by decide +kernel
theorem hd9_X4_ringOrder : yX4_ringOrder.cls = RX4 ∧ yX4_ringOrder.cls ≠ "java/lang/invoke/MethodHandle" ∧ yX4_ringOrder.cls ≠ "java/lang/invoke/VarHandle" ∧ (parseMethodDescriptor yX4_ringOrder.desc).map (fun d => d.parameters.length) = some 0 := by decide +kernel
def f_X4_ringOrder_9 : Nat → Nat → Int32 → Int32 → Int32 → Int32 → Hp → Option Int32
  | 0, _, _, _, _, _, _ => none
  | n + 1, v0, v1, v2, v3, v4, h => (gI h v0 4 2).bind fun x1 => if x1 < v4 then (if v3 = 0 then (some ((-1 : Int32))) else (if (60 : Int32) < v3 then (some ((-1 : Int32))) else (if v1 = ((2 : Int32) * v3) then (if v2 = v1 then (if v2 = (v1 + (1 : Int32)) then ((gR h v0 4 0).bind fun x4 => (aI h 0 x4 v1).bind fun x5 => if x5 = 0 then (if (1 : Int32) = 0 then (if (1 : Int32) = 0 then (some ((-1 : Int32))) else (some (v3))) else (some (v3))) else (if (1 : Int32) = 0 then (if (0 : Int32) = 0 then (some ((-1 : Int32))) else (some (v3))) else (some (v3)))) else (if (1 : Int32) = 0 then (if (0 : Int32) = 0 then (some ((-1 : Int32))) else (some (v3))) else (some (v3)))) else (if v2 = (v1 + (1 : Int32)) then ((gR h v0 4 0).bind fun x2 => (aI h 0 x2 v1).bind fun x3 => if x3 = 0 then (if (0 : Int32) = 0 then (if (1 : Int32) = 0 then (some ((-1 : Int32))) else (some (v3))) else (some (v3))) else (if (0 : Int32) = 0 then (if (0 : Int32) = 0 then (some ((-1 : Int32))) else (some (v3))) else (some (v3)))) else (if (0 : Int32) = 0 then (if (0 : Int32) = 0 then (some ((-1 : Int32))) else (some (v3))) else (some (v3))))) else (some ((-1 : Int32)))))) else ((gR h v0 4 0).bind fun x6 => (aI h 0 x6 v4).bind fun x7 => if x7 = 0 then (f_X4_ringOrder_9 n v0 v1 v2 v3 (v4 + (1)) h) else ((gR h v0 4 0).bind fun x8 => (aI h 0 x8 v4).bind fun x9 => f_X4_ringOrder_9 n v0 (v1 + (1)) v4 (if v3 < x9 then x9 else v3) (v4 + (1)) h))
set_option maxHeartbeats 4000000 in
set_option maxRecDepth 100000 in
theorem w_X4_ringOrder_9 {g : GT} {l : Launch} {r : Int32} : ∀ (n : Nat) (v0 : Nat) (v1 : Int32) (v2 : Int32) (v3 : Int32) (v4 : Int32) (h : Hp), f_X4_ringOrder_9 n v0 v1 v2 v3 v4 h = some r → PW g l m_X4_ringOrder 1 0 0 9 [some (.ref v0), some (.int v1), some (.int v2), some (.int v3), some (.int v4), none] [] h (fun r9 h9 => r9 = some (.int r) ∧ h9 = h) := by
  intro n
  induction n with
  | zero => intro v0 v1 v2 v3 v4 h hf; cases hf
  | succ n ih =>
    intro v0 v1 v2 v3 v4 h hf
    rw [f_X4_ringOrder_9] at hf
    refine pw_iload dX4_ringOrder_9 rfl ?_
    refine pw_aload_n dX4_ringOrder_11 rfl ?_
    refine q_gI hf rfl (by decide) w9_X4_ringOrder_X4 (by decide +kernel) dX4_ringOrder_12 (fun x1 hf => ?_)
    refine q_icmp_gt (tgt := 52) hf dX4_ringOrder_15 (by decide) (fun hf _ => ?_) (fun hf _ => ?_)
    · refine pw_iload_n dX4_ringOrder_52 rfl ?_
      refine q_if_eq (tgt := 69) hf dX4_ringOrder_53 (by decide) (fun hf _ => ?_) (fun hf _ => ?_)
      · refine pw_iconst (v := (-1)) dX4_ringOrder_69 (by decide) ?_
        exact pw_iret (x := (-1 : Int32)) rfl rfl dX4_ringOrder_70 ⟨congrArg (fun z => some (Value.int z)) (Option.some.inj hf), rfl⟩
      · refine pw_iload_n dX4_ringOrder_56 rfl ?_
        refine pw_bipush (v := (60)) dX4_ringOrder_57 (by decide) ?_
        refine q_icmp_gt (tgt := 69) hf dX4_ringOrder_59 (by decide) (fun hf _ => ?_) (fun hf _ => ?_)
        · refine pw_iconst (v := (-1)) dX4_ringOrder_69 (by decide) ?_
          exact pw_iret (x := (-1 : Int32)) rfl rfl dX4_ringOrder_70 ⟨congrArg (fun z => some (Value.int z)) (Option.some.inj hf), rfl⟩
        · refine pw_iload_n dX4_ringOrder_62 rfl ?_
          refine pw_iconst (v := (2)) dX4_ringOrder_63 (by decide) ?_
          refine pw_iload_n dX4_ringOrder_64 rfl ?_
          refine pw_imul dX4_ringOrder_65 ?_
          refine q_icmp_eq (tgt := 71) hf dX4_ringOrder_66 (by decide) (fun hf _ => ?_) (fun hf _ => ?_)
          · refine pw_iload_n dX4_ringOrder_71 rfl ?_
            refine pw_iload_n dX4_ringOrder_72 rfl ?_
            refine q_icmp_ne (tgt := 80) hf dX4_ringOrder_73 (by decide) (fun hf _ => ?_) (fun hf _ => ?_)
            · refine pw_iconst (v := (0)) dX4_ringOrder_80 (by decide) ?_
              refine pw_istore dX4_ringOrder_81 (by decide) rfl ?_
              dsimp only [lset, lset2, clr]
              refine pw_iload_n dX4_ringOrder_83 rfl ?_
              refine pw_iload_n dX4_ringOrder_84 rfl ?_
              refine pw_iconst (v := (1)) dX4_ringOrder_85 (by decide) ?_
              refine pw_iadd dX4_ringOrder_86 ?_
              refine q_icmp_ne (tgt := 103) hf dX4_ringOrder_87 (by decide) (fun hf _ => ?_) (fun hf _ => ?_)
              · refine pw_iconst (v := (0)) dX4_ringOrder_103 (by decide) ?_
                refine pw_istore dX4_ringOrder_104 (by decide) rfl ?_
                dsimp only [lset, lset2, clr]
                refine pw_iload dX4_ringOrder_106 rfl ?_
                refine q_if_ne (tgt := 116) hf dX4_ringOrder_108 (by decide) (fun hf _ => ?_) (fun hf _ => ?_)
                · refine pw_iload_n dX4_ringOrder_116 rfl ?_
                  refine pw_goto (tgt := 121) dX4_ringOrder_117 (by decide) ?_
                  exact pw_iret (x := v3) rfl rfl dX4_ringOrder_121 ⟨congrArg (fun z => some (Value.int z)) (Option.some.inj hf), rfl⟩
                · refine pw_iload dX4_ringOrder_111 rfl ?_
                  refine q_if_eq (tgt := 120) hf dX4_ringOrder_113 (by decide) (fun hf _ => ?_) (fun hf _ => ?_)
                  · refine pw_iconst (v := (-1)) dX4_ringOrder_120 (by decide) ?_
                    exact pw_iret (x := (-1 : Int32)) rfl rfl dX4_ringOrder_121 ⟨congrArg (fun z => some (Value.int z)) (Option.some.inj hf), rfl⟩
                  · refine pw_iload_n dX4_ringOrder_116 rfl ?_
                    refine pw_goto (tgt := 121) dX4_ringOrder_117 (by decide) ?_
                    exact pw_iret (x := v3) rfl rfl dX4_ringOrder_121 ⟨congrArg (fun z => some (Value.int z)) (Option.some.inj hf), rfl⟩
              · refine pw_aload_n dX4_ringOrder_90 rfl ?_
                refine q_gR hf rfl (by decide) w9_X4_ringOrder_X4 (by decide +kernel) dX4_ringOrder_91 (fun x2 hf => ?_)
                refine pw_iload_n dX4_ringOrder_94 rfl ?_
                refine q_iald hf dX4_ringOrder_95 (fun x3 hf => ?_)
                refine q_if_ne (tgt := 103) hf dX4_ringOrder_96 (by decide) (fun hf _ => ?_) (fun hf _ => ?_)
                · refine pw_iconst (v := (0)) dX4_ringOrder_103 (by decide) ?_
                  refine pw_istore dX4_ringOrder_104 (by decide) rfl ?_
                  dsimp only [lset, lset2, clr]
                  refine pw_iload dX4_ringOrder_106 rfl ?_
                  refine q_if_ne (tgt := 116) hf dX4_ringOrder_108 (by decide) (fun hf _ => ?_) (fun hf _ => ?_)
                  · refine pw_iload_n dX4_ringOrder_116 rfl ?_
                    refine pw_goto (tgt := 121) dX4_ringOrder_117 (by decide) ?_
                    exact pw_iret (x := v3) rfl rfl dX4_ringOrder_121 ⟨congrArg (fun z => some (Value.int z)) (Option.some.inj hf), rfl⟩
                  · refine pw_iload dX4_ringOrder_111 rfl ?_
                    refine q_if_eq (tgt := 120) hf dX4_ringOrder_113 (by decide) (fun hf _ => ?_) (fun hf _ => ?_)
                    · refine pw_iconst (v := (-1)) dX4_ringOrder_120 (by decide) ?_
                      exact pw_iret (x := (-1 : Int32)) rfl rfl dX4_ringOrder_121 ⟨congrArg (fun z => some (Value.int z)) (Option.some.inj hf), rfl⟩
                    · refine pw_iload_n dX4_ringOrder_116 rfl ?_
                      refine pw_goto (tgt := 121) dX4_ringOrder_117 (by decide) ?_
                      exact pw_iret (x := v3) rfl rfl dX4_ringOrder_121 ⟨congrArg (fun z => some (Value.int z)) (Option.some.inj hf), rfl⟩
                · refine pw_iconst (v := (1)) dX4_ringOrder_99 (by decide) ?_
                  refine pw_goto (tgt := 104) dX4_ringOrder_100 (by decide) ?_
                  refine pw_istore dX4_ringOrder_104 (by decide) rfl ?_
                  dsimp only [lset, lset2, clr]
                  refine pw_iload dX4_ringOrder_106 rfl ?_
                  refine q_if_ne (tgt := 116) hf dX4_ringOrder_108 (by decide) (fun hf _ => ?_) (fun hf _ => ?_)
                  · refine pw_iload_n dX4_ringOrder_116 rfl ?_
                    refine pw_goto (tgt := 121) dX4_ringOrder_117 (by decide) ?_
                    exact pw_iret (x := v3) rfl rfl dX4_ringOrder_121 ⟨congrArg (fun z => some (Value.int z)) (Option.some.inj hf), rfl⟩
                  · refine pw_iload dX4_ringOrder_111 rfl ?_
                    refine q_if_eq (tgt := 120) hf dX4_ringOrder_113 (by decide) (fun hf _ => ?_) (fun hf _ => ?_)
                    · refine pw_iconst (v := (-1)) dX4_ringOrder_120 (by decide) ?_
                      exact pw_iret (x := (-1 : Int32)) rfl rfl dX4_ringOrder_121 ⟨congrArg (fun z => some (Value.int z)) (Option.some.inj hf), rfl⟩
                    · refine pw_iload_n dX4_ringOrder_116 rfl ?_
                      refine pw_goto (tgt := 121) dX4_ringOrder_117 (by decide) ?_
                      exact pw_iret (x := v3) rfl rfl dX4_ringOrder_121 ⟨congrArg (fun z => some (Value.int z)) (Option.some.inj hf), rfl⟩
            · refine pw_iconst (v := (1)) dX4_ringOrder_76 (by decide) ?_
              refine pw_goto (tgt := 81) dX4_ringOrder_77 (by decide) ?_
              refine pw_istore dX4_ringOrder_81 (by decide) rfl ?_
              dsimp only [lset, lset2, clr]
              refine pw_iload_n dX4_ringOrder_83 rfl ?_
              refine pw_iload_n dX4_ringOrder_84 rfl ?_
              refine pw_iconst (v := (1)) dX4_ringOrder_85 (by decide) ?_
              refine pw_iadd dX4_ringOrder_86 ?_
              refine q_icmp_ne (tgt := 103) hf dX4_ringOrder_87 (by decide) (fun hf _ => ?_) (fun hf _ => ?_)
              · refine pw_iconst (v := (0)) dX4_ringOrder_103 (by decide) ?_
                refine pw_istore dX4_ringOrder_104 (by decide) rfl ?_
                dsimp only [lset, lset2, clr]
                refine pw_iload dX4_ringOrder_106 rfl ?_
                refine q_if_ne (tgt := 116) hf dX4_ringOrder_108 (by decide) (fun hf _ => ?_) (fun hf _ => ?_)
                · refine pw_iload_n dX4_ringOrder_116 rfl ?_
                  refine pw_goto (tgt := 121) dX4_ringOrder_117 (by decide) ?_
                  exact pw_iret (x := v3) rfl rfl dX4_ringOrder_121 ⟨congrArg (fun z => some (Value.int z)) (Option.some.inj hf), rfl⟩
                · refine pw_iload dX4_ringOrder_111 rfl ?_
                  refine q_if_eq (tgt := 120) hf dX4_ringOrder_113 (by decide) (fun hf _ => ?_) (fun hf _ => ?_)
                  · refine pw_iconst (v := (-1)) dX4_ringOrder_120 (by decide) ?_
                    exact pw_iret (x := (-1 : Int32)) rfl rfl dX4_ringOrder_121 ⟨congrArg (fun z => some (Value.int z)) (Option.some.inj hf), rfl⟩
                  · refine pw_iload_n dX4_ringOrder_116 rfl ?_
                    refine pw_goto (tgt := 121) dX4_ringOrder_117 (by decide) ?_
                    exact pw_iret (x := v3) rfl rfl dX4_ringOrder_121 ⟨congrArg (fun z => some (Value.int z)) (Option.some.inj hf), rfl⟩
              · refine pw_aload_n dX4_ringOrder_90 rfl ?_
                refine q_gR hf rfl (by decide) w9_X4_ringOrder_X4 (by decide +kernel) dX4_ringOrder_91 (fun x4 hf => ?_)
                refine pw_iload_n dX4_ringOrder_94 rfl ?_
                refine q_iald hf dX4_ringOrder_95 (fun x5 hf => ?_)
                refine q_if_ne (tgt := 103) hf dX4_ringOrder_96 (by decide) (fun hf _ => ?_) (fun hf _ => ?_)
                · refine pw_iconst (v := (0)) dX4_ringOrder_103 (by decide) ?_
                  refine pw_istore dX4_ringOrder_104 (by decide) rfl ?_
                  dsimp only [lset, lset2, clr]
                  refine pw_iload dX4_ringOrder_106 rfl ?_
                  refine q_if_ne (tgt := 116) hf dX4_ringOrder_108 (by decide) (fun hf _ => ?_) (fun hf _ => ?_)
                  · refine pw_iload_n dX4_ringOrder_116 rfl ?_
                    refine pw_goto (tgt := 121) dX4_ringOrder_117 (by decide) ?_
                    exact pw_iret (x := v3) rfl rfl dX4_ringOrder_121 ⟨congrArg (fun z => some (Value.int z)) (Option.some.inj hf), rfl⟩
                  · refine pw_iload dX4_ringOrder_111 rfl ?_
                    refine q_if_eq (tgt := 120) hf dX4_ringOrder_113 (by decide) (fun hf _ => ?_) (fun hf _ => ?_)
                    · refine pw_iconst (v := (-1)) dX4_ringOrder_120 (by decide) ?_
                      exact pw_iret (x := (-1 : Int32)) rfl rfl dX4_ringOrder_121 ⟨congrArg (fun z => some (Value.int z)) (Option.some.inj hf), rfl⟩
                    · refine pw_iload_n dX4_ringOrder_116 rfl ?_
                      refine pw_goto (tgt := 121) dX4_ringOrder_117 (by decide) ?_
                      exact pw_iret (x := v3) rfl rfl dX4_ringOrder_121 ⟨congrArg (fun z => some (Value.int z)) (Option.some.inj hf), rfl⟩
                · refine pw_iconst (v := (1)) dX4_ringOrder_99 (by decide) ?_
                  refine pw_goto (tgt := 104) dX4_ringOrder_100 (by decide) ?_
                  refine pw_istore dX4_ringOrder_104 (by decide) rfl ?_
                  dsimp only [lset, lset2, clr]
                  refine pw_iload dX4_ringOrder_106 rfl ?_
                  refine q_if_ne (tgt := 116) hf dX4_ringOrder_108 (by decide) (fun hf _ => ?_) (fun hf _ => ?_)
                  · refine pw_iload_n dX4_ringOrder_116 rfl ?_
                    refine pw_goto (tgt := 121) dX4_ringOrder_117 (by decide) ?_
                    exact pw_iret (x := v3) rfl rfl dX4_ringOrder_121 ⟨congrArg (fun z => some (Value.int z)) (Option.some.inj hf), rfl⟩
                  · refine pw_iload dX4_ringOrder_111 rfl ?_
                    refine q_if_eq (tgt := 120) hf dX4_ringOrder_113 (by decide) (fun hf _ => ?_) (fun hf _ => ?_)
                    · refine pw_iconst (v := (-1)) dX4_ringOrder_120 (by decide) ?_
                      exact pw_iret (x := (-1 : Int32)) rfl rfl dX4_ringOrder_121 ⟨congrArg (fun z => some (Value.int z)) (Option.some.inj hf), rfl⟩
                    · refine pw_iload_n dX4_ringOrder_116 rfl ?_
                      refine pw_goto (tgt := 121) dX4_ringOrder_117 (by decide) ?_
                      exact pw_iret (x := v3) rfl rfl dX4_ringOrder_121 ⟨congrArg (fun z => some (Value.int z)) (Option.some.inj hf), rfl⟩
          · refine pw_iconst (v := (-1)) dX4_ringOrder_69 (by decide) ?_
            exact pw_iret (x := (-1 : Int32)) rfl rfl dX4_ringOrder_70 ⟨congrArg (fun z => some (Value.int z)) (Option.some.inj hf), rfl⟩
    · refine pw_aload_n dX4_ringOrder_18 rfl ?_
      refine q_gR hf rfl (by decide) w9_X4_ringOrder_X4 (by decide +kernel) dX4_ringOrder_19 (fun x6 hf => ?_)
      refine pw_iload dX4_ringOrder_22 rfl ?_
      refine q_iald hf dX4_ringOrder_24 (fun x7 hf => ?_)
      refine q_if_eq (tgt := 46) hf dX4_ringOrder_25 (by decide) (fun hf _ => ?_) (fun hf _ => ?_)
      · refine pw_iinc (v := v4 + (1)) dX4_ringOrder_46 rfl rfl (by decide) rfl ?_
        dsimp only [lset, lset2, clr]
        refine pw_goto (tgt := 9) dX4_ringOrder_49 (by decide) ?_
        exact pw_lo (lle_s rfl (lle_s rfl (lle_s rfl (lle_s rfl (lle_s rfl (lle_n lle_0)))))) (ih _ _ _ _ _ _ hf)
      · refine pw_iinc (v := v1 + (1)) dX4_ringOrder_28 rfl rfl (by decide) rfl ?_
        dsimp only [lset, lset2, clr]
        refine pw_iload dX4_ringOrder_31 rfl ?_
        refine pw_istore_n dX4_ringOrder_33 (by decide) rfl ?_
        dsimp only [lset, lset2, clr]
        refine pw_iload_n dX4_ringOrder_34 rfl ?_
        refine pw_aload_n dX4_ringOrder_35 rfl ?_
        refine q_gR hf rfl (by decide) w9_X4_ringOrder_X4 (by decide +kernel) dX4_ringOrder_36 (fun x8 hf => ?_)
        refine pw_iload dX4_ringOrder_39 rfl ?_
        refine q_iald hf dX4_ringOrder_41 (fun x9 hf => ?_)
        refine pw_max (by decide +kernel) (by decide +kernel) (by decide +kernel) (by decide +kernel) (by decide) (Nat.le_of_ble_eq_true rfl) dX4_ringOrder_42 ?_
        refine pw_istore_n dX4_ringOrder_45 (by decide) rfl ?_
        dsimp only [lset, lset2, clr]
        refine pw_iinc (v := v4 + (1)) dX4_ringOrder_46 rfl rfl (by decide) rfl ?_
        dsimp only [lset, lset2, clr]
        refine pw_goto (tgt := 9) dX4_ringOrder_49 (by decide) ?_
        exact pw_lo (lle_s rfl (lle_s rfl (lle_s rfl (lle_s rfl (lle_s rfl (lle_n lle_0)))))) (ih _ _ _ _ _ _ hf)
def f_X4_ringOrder (h : Hp) (a0 : Nat) : Option Int32 := f_X4_ringOrder_9 4096 a0 (0 : Int32) (0 : Int32) (0 : Int32) (1 : Int32) h
set_option maxHeartbeats 4000000 in
set_option maxRecDepth 100000 in
theorem t_X4_ringOrder {g : GT} {l : Launch} {h : Hp} {a0 : Nat} {r : Int32} (hf : f_X4_ringOrder h a0 = some r) : PM g l 1 0 0 yX4_ringOrder wsX4_ringOrder [.ref a0] h (fun r9 h9 => r9 = some (.int r) ∧ h9 = h) := by
  refine pm_of (M := m_X4_ringOrder) (by decide) rfl rfl rfl (Nat.le_of_ble_eq_true rfl) (lo := [some (.ref a0), none, none, none, none, none]) rfl ?_
  rw [f_X4_ringOrder] at hf
  refine pw_iconst (v := (0)) dX4_ringOrder_0 (by decide) ?_
  refine pw_istore_n dX4_ringOrder_1 (by decide) rfl ?_
  dsimp only [lset, lset2, clr]
  refine pw_iconst (v := (0)) dX4_ringOrder_2 (by decide) ?_
  refine pw_istore_n dX4_ringOrder_3 (by decide) rfl ?_
  dsimp only [lset, lset2, clr]
  refine pw_iconst (v := (0)) dX4_ringOrder_4 (by decide) ?_
  refine pw_istore_n dX4_ringOrder_5 (by decide) rfl ?_
  dsimp only [lset, lset2, clr]
  refine pw_iconst (v := (1)) dX4_ringOrder_6 (by decide) ?_
  refine pw_istore dX4_ringOrder_7 (by decide) rfl ?_
  dsimp only [lset, lset2, clr]
  exact pw_lo (lle_s rfl (lle_s rfl (lle_s rfl (lle_s rfl (lle_s rfl (lle_n lle_0)))))) (w_X4_ringOrder_9 4096 _ _ _ _ _ _ hf)
/-! J9_floorMod_7cf53 -/
abbrev m_J9_floorMod_7cf53 : MD := (cJ9_floorMod_7cf53, RJ9, "floorMod", wsJ9_floorMod_7cf53, 3, (some .int))
theorem hd9_J9_floorMod_7cf53 : yJ9_floorMod_7cf53.cls ≠ "java/lang/invoke/MethodHandle" ∧ yJ9_floorMod_7cf53.cls ≠ "java/lang/invoke/VarHandle" ∧ (parseMethodDescriptor yJ9_floorMod_7cf53.desc).map (fun d => d.parameters.length) = some 2 := by decide +kernel
def f_J9_floorMod_7cf53 (h : Hp) (a0 : Int32) (a1 : Int32) : Option Int32 := if a1 = 0 then none else if 0 ≤ (a0 ^^^ a1) then (some (a0 - a0 / a1 * a1)) else (if (a0 - a0 / a1 * a1) = 0 then (some (a0 - a0 / a1 * a1)) else (some ((a0 - a0 / a1 * a1) + a1)))
set_option maxHeartbeats 4000000 in
set_option maxRecDepth 100000 in
theorem t_J9_floorMod_7cf53 {g : GT} {l : Launch} {h : Hp} {a0 : Int32} {a1 : Int32} {r : Int32} (hf : f_J9_floorMod_7cf53 h a0 a1 = some r) : PM g l 1 0 0 yJ9_floorMod_7cf53 wsJ9_floorMod_7cf53 [.int a0, .int a1] h (fun r9 h9 => r9 = some (.int r) ∧ h9 = h) := by
  refine pm_ofF (M := m_J9_floorMod_7cf53) (by decide +kernel) rfl rfl rfl (Nat.le_of_ble_eq_true rfl) (lo := [some (.int a0), some (.int a1), none]) rfl ?_
  rw [f_J9_floorMod_7cf53] at hf
  refine pw_iload_n dJ9_floorMod_7cf53_0 rfl ?_
  refine pw_iload_n dJ9_floorMod_7cf53_1 rfl ?_
  refine q_irem hf dJ9_floorMod_7cf53_2 (fun hf => ?_)
  refine pw_istore_n dJ9_floorMod_7cf53_3 (by decide) rfl ?_
  dsimp only [lset, lset2, clr]
  refine pw_iload_n dJ9_floorMod_7cf53_4 rfl ?_
  refine pw_iload_n dJ9_floorMod_7cf53_5 rfl ?_
  refine pw_ixor dJ9_floorMod_7cf53_6 ?_
  refine q_if_ge (tgt := 18) hf dJ9_floorMod_7cf53_7 (by decide) (fun hf _ => ?_) (fun hf _ => ?_)
  · refine pw_iload_n dJ9_floorMod_7cf53_18 rfl ?_
    exact pw_iret (x := a0 - a0 / a1 * a1) rfl rfl dJ9_floorMod_7cf53_19 ⟨congrArg (fun z => some (Value.int z)) (Option.some.inj hf), rfl⟩
  · refine pw_iload_n dJ9_floorMod_7cf53_10 rfl ?_
    refine q_if_eq (tgt := 18) hf dJ9_floorMod_7cf53_11 (by decide) (fun hf _ => ?_) (fun hf _ => ?_)
    · refine pw_iload_n dJ9_floorMod_7cf53_18 rfl ?_
      exact pw_iret (x := a0 - a0 / a1 * a1) rfl rfl dJ9_floorMod_7cf53_19 ⟨congrArg (fun z => some (Value.int z)) (Option.some.inj hf), rfl⟩
    · refine pw_iload_n dJ9_floorMod_7cf53_14 rfl ?_
      refine pw_iload_n dJ9_floorMod_7cf53_15 rfl ?_
      refine pw_iadd dJ9_floorMod_7cf53_16 ?_
      exact pw_iret (x := (a0 - a0 / a1 * a1) + a1) rfl rfl dJ9_floorMod_7cf53_17 ⟨congrArg (fun z => some (Value.int z)) (Option.some.inj hf), rfl⟩
/-! X4_thirdAlong -/
abbrev m_X4_thirdAlong : MD := (cX4_thirdAlong, RX4, "thirdAlong", wsX4_thirdAlong, 8, (some .int))
theorem w9_X4_thirdAlong_X4 : ∀ w ∈ u_ws RX4 TX4 3, w ∈ wsX4_thirdAlong := by decide +kernel
theorem hd9_X4_thirdAlong : yX4_thirdAlong.cls = RX4 ∧ yX4_thirdAlong.cls ≠ "java/lang/invoke/MethodHandle" ∧ yX4_thirdAlong.cls ≠ "java/lang/invoke/VarHandle" ∧ (parseMethodDescriptor yX4_thirdAlong.desc).map (fun d => d.parameters.length) = some 3 := by decide +kernel
def f_X4_thirdAlong_21 : Nat → Nat → Int32 → Int32 → Int32 → Int32 → Int32 → Hp → Option Int32
  | 0, _, _, _, _, _, _, _ => none
  | n + 1, v0, v1, v3, v4, v5, v6, h => if v3 < v6 then (some ((-1 : Int32))) else (if (60 : Int32) < v6 then (some ((-1 : Int32))) else ((gR h v0 4 1).bind fun x1 => (aI h 0 x1 v6).bind fun x2 => if v5 = v6 then (if v4 = 0 then none else some ((v1 + ((v3 + x2) + v6)) - (v1 + ((v3 + x2) + v6)) / v4 * v4)) else (if v5 = ((v3 + x2) + v6) then (if v4 = 0 then none else some ((v1 + v6) - (v1 + v6) / v4 * v4)) else (if v5 = (((v3 + x2) + v6) - v6) then ((f_J9_floorMod_7cf53 h (v1 - v6) v4).bind fun x3 => some (x3)) else (f_X4_thirdAlong_21 n v0 v1 v3 v4 v5 (v6 + (1)) h)))))
set_option maxHeartbeats 4000000 in
set_option maxRecDepth 100000 in
theorem w_X4_thirdAlong_21 {g : GT} {l : Launch} {r : Int32} : ∀ (n : Nat) (v0 : Nat) (v1 : Int32) (v3 : Int32) (v4 : Int32) (v5 : Int32) (v6 : Int32) (h : Hp), f_X4_thirdAlong_21 n v0 v1 v3 v4 v5 v6 h = some r → PW g l m_X4_thirdAlong 2 0 0 21 [some (.ref v0), some (.int v1), none, some (.int v3), some (.int v4), some (.int v5), some (.int v6), none] [] h (fun r9 h9 => r9 = some (.int r) ∧ h9 = h) := by
  intro n
  induction n with
  | zero => intro v0 v1 v3 v4 v5 v6 h hf; cases hf
  | succ n ih =>
    intro v0 v1 v3 v4 v5 v6 h hf
    rw [f_X4_thirdAlong_21] at hf
    refine pw_iload dX4_thirdAlong_21 rfl ?_
    refine pw_iload_n dX4_thirdAlong_23 rfl ?_
    refine q_icmp_gt (tgt := 104) hf dX4_thirdAlong_24 (by decide) (fun hf _ => ?_) (fun hf _ => ?_)
    · refine pw_iconst (v := (-1)) dX4_thirdAlong_104 (by decide) ?_
      exact pw_iret (x := (-1 : Int32)) rfl rfl dX4_thirdAlong_105 ⟨congrArg (fun z => some (Value.int z)) (Option.some.inj hf), rfl⟩
    · refine pw_iload dX4_thirdAlong_27 rfl ?_
      refine pw_bipush (v := (60)) dX4_thirdAlong_29 (by decide) ?_
      refine q_icmp_gt (tgt := 104) hf dX4_thirdAlong_31 (by decide) (fun hf _ => ?_) (fun hf _ => ?_)
      · refine pw_iconst (v := (-1)) dX4_thirdAlong_104 (by decide) ?_
        exact pw_iret (x := (-1 : Int32)) rfl rfl dX4_thirdAlong_105 ⟨congrArg (fun z => some (Value.int z)) (Option.some.inj hf), rfl⟩
      · refine pw_iload_n dX4_thirdAlong_34 rfl ?_
        refine pw_aload_n dX4_thirdAlong_35 rfl ?_
        refine q_gR hf rfl (by decide) w9_X4_thirdAlong_X4 (by decide +kernel) dX4_thirdAlong_36 (fun x1 hf => ?_)
        refine pw_iload dX4_thirdAlong_39 rfl ?_
        refine q_iald hf dX4_thirdAlong_41 (fun x2 hf => ?_)
        refine pw_iadd dX4_thirdAlong_42 ?_
        refine pw_iload dX4_thirdAlong_43 rfl ?_
        refine pw_iadd dX4_thirdAlong_45 ?_
        refine pw_istore dX4_thirdAlong_46 (by decide) rfl ?_
        dsimp only [lset, lset2, clr]
        refine pw_iload dX4_thirdAlong_48 rfl ?_
        refine pw_iload dX4_thirdAlong_50 rfl ?_
        refine q_icmp_ne (tgt := 63) hf dX4_thirdAlong_52 (by decide) (fun hf _ => ?_) (fun hf _ => ?_)
        · refine pw_iload dX4_thirdAlong_63 rfl ?_
          refine pw_iload dX4_thirdAlong_65 rfl ?_
          refine q_icmp_ne (tgt := 78) hf dX4_thirdAlong_67 (by decide) (fun hf _ => ?_) (fun hf _ => ?_)
          · refine pw_iload dX4_thirdAlong_78 rfl ?_
            refine pw_iload dX4_thirdAlong_80 rfl ?_
            refine pw_iload dX4_thirdAlong_82 rfl ?_
            refine pw_isub dX4_thirdAlong_84 ?_
            refine q_icmp_ne (tgt := 98) hf dX4_thirdAlong_85 (by decide) (fun hf _ => ?_) (fun hf _ => ?_)
            · refine pw_iinc (v := v6 + (1)) dX4_thirdAlong_98 rfl rfl (by decide) rfl ?_
              dsimp only [lset, lset2, clr]
              refine pw_goto (tgt := 21) dX4_thirdAlong_101 (by decide) ?_
              exact pw_lo (lle_s rfl (lle_s rfl (lle_n (lle_s rfl (lle_s rfl (lle_s rfl (lle_s rfl (lle_n lle_0)))))))) (ih _ _ _ _ _ _ _ hf)
            · refine pw_iload_n dX4_thirdAlong_88 rfl ?_
              refine pw_iload dX4_thirdAlong_89 rfl ?_
              refine pw_isub dX4_thirdAlong_91 ?_
              refine pw_iload dX4_thirdAlong_92 rfl ?_
              refine q_callS_i (kc2 := 0) (ks2 := 0) (as := [.int (v1 - v6), .int v4]) (rest := []) hf (fun x9 e9 => t_J9_floorMod_7cf53 e9) gX4_thirdAlong_J9_floorMod_7cf53 rfl hd9_J9_floorMod_7cf53 rfl ⟨(by decide), by decide⟩ ⟨rfl, rfl⟩ (Nat.le_of_ble_eq_true rfl) dX4_thirdAlong_94 rfl (fun x3 hf => ?_)
              exact pw_iret (x := x3) rfl rfl dX4_thirdAlong_97 ⟨congrArg (fun z => some (Value.int z)) (Option.some.inj hf), rfl⟩
          · refine pw_iload_n dX4_thirdAlong_70 rfl ?_
            refine pw_iload dX4_thirdAlong_71 rfl ?_
            refine pw_iadd dX4_thirdAlong_73 ?_
            refine pw_iload dX4_thirdAlong_74 rfl ?_
            refine q_irem hf dX4_thirdAlong_76 (fun hf => ?_)
            exact pw_iret (x := (v1 + v6) - (v1 + v6) / v4 * v4) rfl rfl dX4_thirdAlong_77 ⟨congrArg (fun z => some (Value.int z)) (Option.some.inj hf), rfl⟩
        · refine pw_iload_n dX4_thirdAlong_55 rfl ?_
          refine pw_iload dX4_thirdAlong_56 rfl ?_
          refine pw_iadd dX4_thirdAlong_58 ?_
          refine pw_iload dX4_thirdAlong_59 rfl ?_
          refine q_irem hf dX4_thirdAlong_61 (fun hf => ?_)
          exact pw_iret (x := (v1 + ((v3 + x2) + v6)) - (v1 + ((v3 + x2) + v6)) / v4 * v4) rfl rfl dX4_thirdAlong_62 ⟨congrArg (fun z => some (Value.int z)) (Option.some.inj hf), rfl⟩
def f_X4_thirdAlong (h : Hp) (a0 : Nat) (a1 : Int32) (a2 : Int32) (a3 : Int32) : Option Int32 := (f_J9_floorMod_7cf53 h (a2 - a1) (((6 : Int32) * a3) + (1 : Int32))).bind fun x1 => f_X4_thirdAlong_21 4096 a0 a1 a3 (((6 : Int32) * a3) + (1 : Int32)) x1 (1 : Int32) h
set_option maxHeartbeats 4000000 in
set_option maxRecDepth 100000 in
theorem t_X4_thirdAlong {g : GT} {l : Launch} {h : Hp} {a0 : Nat} {a1 : Int32} {a2 : Int32} {a3 : Int32} {r : Int32} (hf : f_X4_thirdAlong h a0 a1 a2 a3 = some r) : PM g l 2 0 0 yX4_thirdAlong wsX4_thirdAlong [.ref a0, .int a1, .int a2, .int a3] h (fun r9 h9 => r9 = some (.int r) ∧ h9 = h) := by
  refine pm_of (M := m_X4_thirdAlong) (by decide) rfl rfl rfl (Nat.le_of_ble_eq_true rfl) (lo := [some (.ref a0), some (.int a1), some (.int a2), some (.int a3), none, none, none, none]) rfl ?_
  rw [f_X4_thirdAlong] at hf
  refine pw_bipush (v := (6)) dX4_thirdAlong_0 (by decide) ?_
  refine pw_iload_n dX4_thirdAlong_2 rfl ?_
  refine pw_imul dX4_thirdAlong_3 ?_
  refine pw_iconst (v := (1)) dX4_thirdAlong_4 (by decide) ?_
  refine pw_iadd dX4_thirdAlong_5 ?_
  refine pw_istore dX4_thirdAlong_6 (by decide) rfl ?_
  dsimp only [lset, lset2, clr]
  refine pw_iload_n dX4_thirdAlong_8 rfl ?_
  refine pw_iload_n dX4_thirdAlong_9 rfl ?_
  refine pw_isub dX4_thirdAlong_10 ?_
  refine pw_iload dX4_thirdAlong_11 rfl ?_
  refine q_callS_i (kc2 := 0) (ks2 := 0) (as := [.int (a2 - a1), .int (((6 : Int32) * a3) + (1 : Int32))]) (rest := []) hf (fun x9 e9 => t_J9_floorMod_7cf53 e9) gX4_thirdAlong_J9_floorMod_7cf53 rfl hd9_J9_floorMod_7cf53 rfl ⟨(by decide), by decide⟩ ⟨rfl, rfl⟩ (Nat.le_of_ble_eq_true rfl) dX4_thirdAlong_13 rfl (fun x1 hf => ?_)
  refine pw_istore dX4_thirdAlong_16 (by decide) rfl ?_
  dsimp only [lset, lset2, clr]
  refine pw_iconst (v := (1)) dX4_thirdAlong_18 (by decide) ?_
  refine pw_istore dX4_thirdAlong_19 (by decide) rfl ?_
  dsimp only [lset, lset2, clr]
  exact pw_lo (lle_s rfl (lle_s rfl (lle_n (lle_s rfl (lle_s rfl (lle_s rfl (lle_s rfl (lle_n lle_0)))))))) (w_X4_thirdAlong_21 4096 _ _ _ _ _ _ _ hf)
/-! X4_thirdOf -/
abbrev m_X4_thirdOf : MD := (cX4_thirdOf, RX4, "thirdOf", wsX4_thirdOf, 5, (some .int))
theorem hd9_X4_thirdOf : yX4_thirdOf.cls = RX4 ∧ yX4_thirdOf.cls ≠ "java/lang/invoke/MethodHandle" ∧ yX4_thirdOf.cls ≠ "java/lang/invoke/VarHandle" ∧ (parseMethodDescriptor yX4_thirdOf.desc).map (fun d => d.parameters.length) = some 2 := by decide +kernel
def f_X4_thirdOf (h : Hp) (a0 : Nat) (a1 : Int32) (a2 : Int32) : Option Int32 := if oK h a0 4 = true then (f_X4_ringOrder h a0).bind fun x1 => if x1 = (-1 : Int32) then (some ((-1 : Int32))) else (if a1 < 0 then (some ((-1 : Int32))) else (if ((6 : Int32) * x1) < a1 then (some ((-1 : Int32))) else (if a2 < 0 then (some ((-1 : Int32))) else (if ((6 : Int32) * x1) < a2 then (some ((-1 : Int32))) else (if a1 = a2 then (some ((-1 : Int32))) else (if oK h a0 4 = true then (f_X4_thirdAlong h a0 a1 a2 x1).bind fun x2 => if x2 = (-1 : Int32) then (if oK h a0 4 = true then (f_X4_thirdAlong h a0 a2 a1 x1).bind fun x3 => some (x3) else none) else (some (x2)) else none)))))) else none
set_option maxHeartbeats 4000000 in
set_option maxRecDepth 100000 in
theorem t_X4_thirdOf {g : GT} {l : Launch} {h : Hp} {a0 : Nat} {a1 : Int32} {a2 : Int32} {r : Int32} (hf : f_X4_thirdOf h a0 a1 a2 = some r) : PM g l 3 0 0 yX4_thirdOf wsX4_thirdOf [.ref a0, .int a1, .int a2] h (fun r9 h9 => r9 = some (.int r) ∧ h9 = h) := by
  refine pm_of (M := m_X4_thirdOf) (by decide) rfl rfl rfl (Nat.le_of_ble_eq_true rfl) (lo := [some (.ref a0), some (.int a1), some (.int a2), none, none]) rfl ?_
  rw [f_X4_thirdOf] at hf
  refine pw_aload_n dX4_thirdOf_0 rfl ?_
  refine q_callV_i (kc2 := 0) (ks2 := 0) (as := []) (rest := []) hf (fun x9 e9 => t_X4_ringOrder e9) gX4_thirdOf_X4_ringOrder rfl hd9_X4_ringOrder rfl rfl ⟨(by decide), by decide⟩ ⟨rfl, rfl⟩ (Nat.le_of_ble_eq_true rfl) dX4_thirdOf_1 rfl (fun x1 hf => ?_)
  refine pw_istore_n dX4_thirdOf_4 (by decide) rfl ?_
  dsimp only [lset, lset2, clr]
  refine pw_iload_n dX4_thirdOf_5 rfl ?_
  refine pw_iconst (v := (-1)) dX4_thirdOf_6 (by decide) ?_
  refine q_icmp_eq (tgt := 39) hf dX4_thirdOf_7 (by decide) (fun hf _ => ?_) (fun hf _ => ?_)
  · refine pw_iconst (v := (-1)) dX4_thirdOf_39 (by decide) ?_
    exact pw_iret (x := (-1 : Int32)) rfl rfl dX4_thirdOf_40 ⟨congrArg (fun z => some (Value.int z)) (Option.some.inj hf), rfl⟩
  · refine pw_iload_n dX4_thirdOf_10 rfl ?_
    refine q_if_lt (tgt := 39) hf dX4_thirdOf_11 (by decide) (fun hf _ => ?_) (fun hf _ => ?_)
    · refine pw_iconst (v := (-1)) dX4_thirdOf_39 (by decide) ?_
      exact pw_iret (x := (-1 : Int32)) rfl rfl dX4_thirdOf_40 ⟨congrArg (fun z => some (Value.int z)) (Option.some.inj hf), rfl⟩
    · refine pw_iload_n dX4_thirdOf_14 rfl ?_
      refine pw_bipush (v := (6)) dX4_thirdOf_15 (by decide) ?_
      refine pw_iload_n dX4_thirdOf_17 rfl ?_
      refine pw_imul dX4_thirdOf_18 ?_
      refine q_icmp_gt (tgt := 39) hf dX4_thirdOf_19 (by decide) (fun hf _ => ?_) (fun hf _ => ?_)
      · refine pw_iconst (v := (-1)) dX4_thirdOf_39 (by decide) ?_
        exact pw_iret (x := (-1 : Int32)) rfl rfl dX4_thirdOf_40 ⟨congrArg (fun z => some (Value.int z)) (Option.some.inj hf), rfl⟩
      · refine pw_iload_n dX4_thirdOf_22 rfl ?_
        refine q_if_lt (tgt := 39) hf dX4_thirdOf_23 (by decide) (fun hf _ => ?_) (fun hf _ => ?_)
        · refine pw_iconst (v := (-1)) dX4_thirdOf_39 (by decide) ?_
          exact pw_iret (x := (-1 : Int32)) rfl rfl dX4_thirdOf_40 ⟨congrArg (fun z => some (Value.int z)) (Option.some.inj hf), rfl⟩
        · refine pw_iload_n dX4_thirdOf_26 rfl ?_
          refine pw_bipush (v := (6)) dX4_thirdOf_27 (by decide) ?_
          refine pw_iload_n dX4_thirdOf_29 rfl ?_
          refine pw_imul dX4_thirdOf_30 ?_
          refine q_icmp_gt (tgt := 39) hf dX4_thirdOf_31 (by decide) (fun hf _ => ?_) (fun hf _ => ?_)
          · refine pw_iconst (v := (-1)) dX4_thirdOf_39 (by decide) ?_
            exact pw_iret (x := (-1 : Int32)) rfl rfl dX4_thirdOf_40 ⟨congrArg (fun z => some (Value.int z)) (Option.some.inj hf), rfl⟩
          · refine pw_iload_n dX4_thirdOf_34 rfl ?_
            refine pw_iload_n dX4_thirdOf_35 rfl ?_
            refine q_icmp_ne (tgt := 41) hf dX4_thirdOf_36 (by decide) (fun hf _ => ?_) (fun hf _ => ?_)
            · refine pw_aload_n dX4_thirdOf_41 rfl ?_
              refine pw_iload_n dX4_thirdOf_42 rfl ?_
              refine pw_iload_n dX4_thirdOf_43 rfl ?_
              refine pw_iload_n dX4_thirdOf_44 rfl ?_
              refine q_callV_i (kc2 := 0) (ks2 := 0) (as := [.int a1, .int a2, .int x1]) (rest := []) hf (fun x9 e9 => t_X4_thirdAlong e9) gX4_thirdOf_X4_thirdAlong rfl hd9_X4_thirdAlong rfl rfl ⟨(by decide), by decide⟩ ⟨rfl, rfl⟩ (Nat.le_of_ble_eq_true rfl) dX4_thirdOf_45 rfl (fun x2 hf => ?_)
              refine pw_istore dX4_thirdOf_48 (by decide) rfl ?_
              dsimp only [lset, lset2, clr]
              refine pw_iload dX4_thirdOf_50 rfl ?_
              refine pw_iconst (v := (-1)) dX4_thirdOf_52 (by decide) ?_
              refine q_icmp_eq (tgt := 61) hf dX4_thirdOf_53 (by decide) (fun hf _ => ?_) (fun hf _ => ?_)
              · refine pw_aload_n dX4_thirdOf_61 rfl ?_
                refine pw_iload_n dX4_thirdOf_62 rfl ?_
                refine pw_iload_n dX4_thirdOf_63 rfl ?_
                refine pw_iload_n dX4_thirdOf_64 rfl ?_
                refine q_callV_i (kc2 := 0) (ks2 := 0) (as := [.int a2, .int a1, .int x1]) (rest := []) hf (fun x9 e9 => t_X4_thirdAlong e9) gX4_thirdOf_X4_thirdAlong rfl hd9_X4_thirdAlong rfl rfl ⟨(by decide), by decide⟩ ⟨rfl, rfl⟩ (Nat.le_of_ble_eq_true rfl) dX4_thirdOf_65 rfl (fun x3 hf => ?_)
                exact pw_iret (x := x3) rfl rfl dX4_thirdOf_68 ⟨congrArg (fun z => some (Value.int z)) (Option.some.inj hf), rfl⟩
              · refine pw_iload dX4_thirdOf_56 rfl ?_
                refine pw_goto (tgt := 68) dX4_thirdOf_58 (by decide) ?_
                exact pw_iret (x := x2) rfl rfl dX4_thirdOf_68 ⟨congrArg (fun z => some (Value.int z)) (Option.some.inj hf), rfl⟩
            · refine pw_iconst (v := (-1)) dX4_thirdOf_39 (by decide) ?_
              exact pw_iret (x := (-1 : Int32)) rfl rfl dX4_thirdOf_40 ⟨congrArg (fun z => some (Value.int z)) (Option.some.inj hf), rfl⟩
