/-! X0_init -/
abbrev m_X0_init : MD := (cX0_init, RX0, "<init>", wsX0_init, 1, none)
theorem w9_X0_init_X0 : ∀ w ∈ u_ws RX0 TX0 1, w ∈ wsX0_init := by decide +kernel
theorem hd9_X0_init : yX0_init.cls = RX0 ∧ yX0_init.cls ≠ "java/lang/invoke/MethodHandle" ∧ yX0_init.cls ≠ "java/lang/invoke/VarHandle" ∧ (parseMethodDescriptor yX0_init.desc).map (fun d => d.parameters.length) = some 0 := by decide +kernel
def f_X0_init (h : Hp) (a0 : Nat) : Option Hp := (pV h a0 0 0 (.int (0 : Int32))).bind fun h1 => some h1
theorem hd8_X0_init : yX0_init.cls ≠ "java/lang/invoke/MethodHandle" ∧ yX0_init.cls ≠ "java/lang/invoke/VarHandle" ∧ (parseMethodDescriptor yX0_init.desc).map (fun d => d.parameters.length) = some 0 := hd9_X0_init.2
set_option maxHeartbeats 4000000 in
set_option maxRecDepth 100000 in
theorem t_X0_init {g : GT} {l : Launch} {h : Hp} {a0 : Nat} {r : Hp} (hf : f_X0_init h a0 = some r) : PM g l 1 0 0 yX0_init wsX0_init [.ref a0] h (fun r9 h9 => r9 = none ∧ h9 = r) := by
  refine pm_of (M := m_X0_init) (by decide) rfl rfl rfl (Nat.le_of_ble_eq_true rfl) (lo := [some (.ref a0)]) rfl ?_
  rw [f_X0_init] at hf
  refine pw_aload_n dX0_init_0 rfl ?_
  refine pw_obj (by decide +kernel) (by decide +kernel) (by decide +kernel) (by decide) (Nat.le_of_ble_eq_true rfl) dX0_init_1 ?_
  refine pw_aload_n dX0_init_4 rfl ?_
  refine pw_iconst (v := (0)) dX0_init_5 (by decide) ?_
  refine q_pV (ty := .int) hf tyX0 tyX0_ok nmX0 rfl (by decide) w9_X0_init_X0 (by decide +kernel) rfl (by decide +kernel) rfl rfl dX0_init_6 (fun h1 hf => ?_)
  exact pw_vret rfl dX0_init_9 ⟨rfl, Option.some.inj hf⟩
/-! X0_draw -/
abbrev m_X0_draw : MD := (cX0_draw, RX0, "draw", wsX0_draw, 2, (some .int))
theorem w9_X0_draw_X0 : ∀ w ∈ u_ws RX0 TX0 1, w ∈ wsX0_draw := by decide +kernel
theorem hd9_X0_draw : yX0_draw.cls = RX0 ∧ yX0_draw.cls ≠ "java/lang/invoke/MethodHandle" ∧ yX0_draw.cls ≠ "java/lang/invoke/VarHandle" ∧ (parseMethodDescriptor yX0_draw.desc).map (fun d => d.parameters.length) = some 1 := by decide +kernel
def f_X0_draw (h : Hp) (a0 : Nat) (a1 : Int32) : Option (Int32 × Hp) := (gI h a0 0 0).bind fun x1 => (pV h a0 0 0 (.int ((x1 * (1103515245 : Int32)) + (12345 : Int32)))).bind fun h2 => if (1 : Int32) ≤ a1 then ((gI h2 a0 0 0).bind fun x3 => if a1 = 0 then none else some (((ushr x3 (8 : Int32)) - (ushr x3 (8 : Int32)) / a1 * a1, h2))) else (some (((0 : Int32), h2)))
set_option maxHeartbeats 4000000 in
set_option maxRecDepth 100000 in
theorem t_X0_draw {g : GT} {l : Launch} {h : Hp} {a0 : Nat} {a1 : Int32} {r : (Int32 × Hp)} (hf : f_X0_draw h a0 a1 = some r) : PM g l 1 0 0 yX0_draw wsX0_draw [.ref a0, .int a1] h (fun r9 h9 => r9 = some (.int r.1) ∧ h9 = r.2) := by
  refine pm_of (M := m_X0_draw) (by decide) rfl rfl rfl (Nat.le_of_ble_eq_true rfl) (lo := [some (.ref a0), some (.int a1)]) rfl ?_
  rw [f_X0_draw] at hf
  refine pw_aload_n dX0_draw_0 rfl ?_
  refine pw_aload_n dX0_draw_1 rfl ?_
  refine q_gI hf rfl (by decide) w9_X0_draw_X0 (by decide +kernel) dX0_draw_2 (fun x1 hf => ?_)
  refine pw_ldc (v := (1103515245)) dX0_draw_5 (by decide +kernel) ?_
  refine pw_imul dX0_draw_7 ?_
  refine pw_sipush (v := (12345)) dX0_draw_8 (by decide) ?_
  refine pw_iadd dX0_draw_11 ?_
  refine q_pV (ty := .int) hf tyX0 tyX0_ok nmX0 rfl (by decide) w9_X0_draw_X0 (by decide +kernel) rfl (by decide +kernel) rfl rfl dX0_draw_12 (fun h2 hf => ?_)
  refine pw_iload_n dX0_draw_15 rfl ?_
  refine pw_iconst (v := (1)) dX0_draw_16 (by decide) ?_
  refine q_icmp_ge (tgt := 24) hf dX0_draw_17 (by decide) (fun hf _ => ?_) (fun hf _ => ?_)
  · refine pw_aload_n dX0_draw_24 rfl ?_
    refine q_gI hf rfl (by decide) w9_X0_draw_X0 (by decide +kernel) dX0_draw_25 (fun x3 hf => ?_)
    refine pw_bipush (v := (8)) dX0_draw_28 (by decide) ?_
    refine pw_iushr dX0_draw_30 ?_
    refine pw_iload_n dX0_draw_31 rfl ?_
    refine q_irem hf dX0_draw_32 (fun hf => ?_)
    exact pw_iret (x := (ushr x3 (8 : Int32)) - (ushr x3 (8 : Int32)) / a1 * a1) rfl rfl dX0_draw_33 (ret_iw hf)
  · refine pw_iconst (v := (0)) dX0_draw_20 (by decide) ?_
    refine pw_goto (tgt := 33) dX0_draw_21 (by decide) ?_
    exact pw_iret (x := (0 : Int32)) rfl rfl dX0_draw_33 (ret_iw hf)
/-! X0_doPin -/
abbrev m_X0_doPin : MD := (cX0_doPin, RX0, "doPin", wsX0_doPin, 6, (some .boolean))
theorem w9_X0_doPin_X2 : ∀ w ∈ u_ws RX2 TX2 4, w ∈ wsX0_doPin := by decide +kernel
theorem hd9_X0_doPin : yX0_doPin.cls = RX0 ∧ yX0_doPin.cls ≠ "java/lang/invoke/MethodHandle" ∧ yX0_doPin.cls ≠ "java/lang/invoke/VarHandle" ∧ (parseMethodDescriptor yX0_doPin.desc).map (fun d => d.parameters.length) = some 1 := by decide +kernel
def f_X0_doPin (h : Hp) (a0 : Nat) (a1 : Nat) : Option (Int32 × Hp) := (gI h a1 2 2).bind fun x1 => (f_J6_bitCount_0f7a4 h x1).bind fun x2 => if x2 = 0 then (some (((0 : Int32), h))) else (if oK h a0 0 = true then (f_X0_draw h a0 x2).bind fun x3 => if oK x3.2 a1 2 = true then (f_X2_distanceOf x3.2 a1 x3.1).bind fun x4 => (gI x3.2 a1 2 0).bind fun x5 => if oK x3.2 a0 0 = true then (f_X0_draw x3.2 a0 x5).bind fun x6 => if oK x6.2 a1 2 = true then (f_X2_hasPair x6.2 a1 x4).bind fun x7 => if x7 = 0 then (if (0 : Int32) = 0 then (if oK x6.2 a1 2 = true then (f_X2_setPin x6.2 a1 x4 (x6.1 + (1 : Int32))).bind fun x8 => if x8.1 = 0 then (some (((1 : Int32), x8.2))) else (some (((0 : Int32), x8.2))) else none) else (if oK x6.2 a1 2 = true then (f_X2_setPin x6.2 a1 x4 (0 : Int32)).bind fun x9 => if x9.1 = 0 then (some (((1 : Int32), x9.2))) else (some (((0 : Int32), x9.2))) else none)) else ((gR x6.2 a1 2 3).bind fun x10 => (aI x6.2 0 x10 x4).bind fun x11 => if x11 = 0 then (if (0 : Int32) = 0 then (if oK x6.2 a1 2 = true then (f_X2_setPin x6.2 a1 x4 (x6.1 + (1 : Int32))).bind fun x12 => if x12.1 = 0 then (some (((1 : Int32), x12.2))) else (some (((0 : Int32), x12.2))) else none) else (if oK x6.2 a1 2 = true then (f_X2_setPin x6.2 a1 x4 (0 : Int32)).bind fun x13 => if x13.1 = 0 then (some (((1 : Int32), x13.2))) else (some (((0 : Int32), x13.2))) else none)) else (if (1 : Int32) = 0 then (if oK x6.2 a1 2 = true then (f_X2_setPin x6.2 a1 x4 (x6.1 + (1 : Int32))).bind fun x14 => if x14.1 = 0 then (some (((1 : Int32), x14.2))) else (some (((0 : Int32), x14.2))) else none) else (if oK x6.2 a1 2 = true then (f_X2_setPin x6.2 a1 x4 (0 : Int32)).bind fun x15 => if x15.1 = 0 then (some (((1 : Int32), x15.2))) else (some (((0 : Int32), x15.2))) else none))) else none else none else none else none)
set_option maxHeartbeats 4000000 in
set_option maxRecDepth 100000 in
theorem t_X0_doPin {g : GT} {l : Launch} {h : Hp} {a0 : Nat} {a1 : Nat} {r : (Int32 × Hp)} (hf : f_X0_doPin h a0 a1 = some r) : PM g l 4 0 0 yX0_doPin wsX0_doPin [.ref a0, .ref a1] h (fun r9 h9 => r9 = some (.int r.1) ∧ h9 = r.2) := by
  refine pm_of (M := m_X0_doPin) (by decide) rfl rfl rfl (Nat.le_of_ble_eq_true rfl) (lo := [some (.ref a0), some (.ref a1), none, none, none, none]) rfl ?_
  rw [f_X0_doPin] at hf
  refine pw_aload_n dX0_doPin_0 rfl ?_
  refine q_gIN (host := "TwinRows") hf rfl (by decide) w9_X0_doPin_X2 (by decide +kernel) dX0_doPin_1 (fun x1 hf => ?_)
  refine q_callS_i (kc2 := 0) (ks2 := 0) (as := [.int x1]) (rest := []) hf (fun x9 e9 => t_J6_bitCount_0f7a4 e9) gX0_doPin_J6_bitCount_0f7a4 rfl hd9_J6_bitCount_0f7a4 rfl ⟨(by decide), by decide⟩ ⟨rfl, rfl⟩ (Nat.le_of_ble_eq_true rfl) dX0_doPin_4 rfl (fun x2 hf => ?_)
  refine pw_istore_n dX0_doPin_7 (by decide) rfl ?_
  dsimp only [lset, lset2, clr]
  refine pw_iload_n dX0_doPin_8 rfl ?_
  refine q_if_ne (tgt := 14) hf dX0_doPin_9 (by decide) (fun hf _ => ?_) (fun hf _ => ?_)
  · refine pw_aload_n dX0_doPin_14 rfl ?_
    refine pw_aload_n dX0_doPin_15 rfl ?_
    refine pw_iload_n dX0_doPin_16 rfl ?_
    refine q_callV_iw (kc2 := 0) (ks2 := 0) (as := [.int x2]) (rest := [.ref a1]) hf (fun x9 e9 => t_X0_draw e9) gX0_doPin_X0_draw rfl hd9_X0_draw rfl rfl ⟨(by decide), by decide⟩ ⟨rfl, rfl⟩ (Nat.le_of_ble_eq_true rfl) dX0_doPin_17 rfl (fun x3 hf => ?_)
    refine q_callV_i (kc2 := 0) (ks2 := 0) (as := [.int x3.1]) (rest := []) hf (fun x9 e9 => t_X2_distanceOf e9) gX0_doPin_X2_distanceOf rfl hd9_X2_distanceOf rfl rfl ⟨(by decide), by decide⟩ ⟨rfl, rfl⟩ (Nat.le_of_ble_eq_true rfl) dX0_doPin_20 rfl (fun x4 hf => ?_)
    refine pw_istore_n dX0_doPin_23 (by decide) rfl ?_
    dsimp only [lset, lset2, clr]
    refine pw_aload_n dX0_doPin_24 rfl ?_
    refine pw_aload_n dX0_doPin_25 rfl ?_
    refine q_gIN (host := "TwinRows") hf rfl (by decide) w9_X0_doPin_X2 (by decide +kernel) dX0_doPin_26 (fun x5 hf => ?_)
    refine q_callV_iw (kc2 := 0) (ks2 := 0) (as := [.int x5]) (rest := []) hf (fun x9 e9 => t_X0_draw e9) gX0_doPin_X0_draw rfl hd9_X0_draw rfl rfl ⟨(by decide), by decide⟩ ⟨rfl, rfl⟩ (Nat.le_of_ble_eq_true rfl) dX0_doPin_29 rfl (fun x6 hf => ?_)
    refine pw_iconst (v := (1)) dX0_doPin_32 (by decide) ?_
    refine pw_iadd dX0_doPin_33 ?_
    refine pw_istore dX0_doPin_34 (by decide) rfl ?_
    dsimp only [lset, lset2, clr]
    refine pw_aload_n dX0_doPin_36 rfl ?_
    refine pw_iload_n dX0_doPin_37 rfl ?_
    refine q_callV_i (kc2 := 0) (ks2 := 0) (as := [.int x4]) (rest := []) hf (fun x9 e9 => t_X2_hasPair e9) gX0_doPin_X2_hasPair rfl hd9_X2_hasPair rfl rfl ⟨(by decide), by decide⟩ ⟨rfl, rfl⟩ (Nat.le_of_ble_eq_true rfl) dX0_doPin_38 rfl (fun x7 hf => ?_)
    refine q_if_eq (tgt := 57) hf dX0_doPin_41 (by decide) (fun hf _ => ?_) (fun hf _ => ?_)
    · refine pw_iconst (v := (0)) dX0_doPin_57 (by decide) ?_
      refine pw_istore dX0_doPin_58 (by decide) rfl ?_
      dsimp only [lset, lset2, clr]
      refine pw_aload_n dX0_doPin_60 rfl ?_
      refine pw_iload_n dX0_doPin_61 rfl ?_
      refine pw_iload dX0_doPin_62 rfl ?_
      refine q_if_eq (tgt := 71) hf dX0_doPin_64 (by decide) (fun hf _ => ?_) (fun hf _ => ?_)
      · refine pw_iload dX0_doPin_71 rfl ?_
        refine q_callV_iw (kc2 := 0) (ks2 := 0) (as := [.int x4, .int (x6.1 + (1 : Int32))]) (rest := []) hf (fun x9 e9 => t_X2_setPin e9) gX0_doPin_X2_setPin rfl hd9_X2_setPin rfl rfl ⟨(by decide), by decide⟩ ⟨rfl, rfl⟩ (Nat.le_of_ble_eq_true rfl) dX0_doPin_73 rfl (fun x8 hf => ?_)
        refine q_if_ne (tgt := 83) hf dX0_doPin_76 (by decide) (fun hf _ => ?_) (fun hf _ => ?_)
        · refine pw_iconst (v := (0)) dX0_doPin_83 (by decide) ?_
          exact pw_iret (x := (0 : Int32)) rfl rfl dX0_doPin_84 (ret_iw hf)
        · refine pw_iconst (v := (1)) dX0_doPin_79 (by decide) ?_
          refine pw_goto (tgt := 84) dX0_doPin_80 (by decide) ?_
          exact pw_iret (x := (1 : Int32)) rfl rfl dX0_doPin_84 (ret_iw hf)
      · refine pw_iconst (v := (0)) dX0_doPin_67 (by decide) ?_
        refine pw_goto (tgt := 73) dX0_doPin_68 (by decide) ?_
        refine q_callV_iw (kc2 := 0) (ks2 := 0) (as := [.int x4, .int (0 : Int32)]) (rest := []) hf (fun x9 e9 => t_X2_setPin e9) gX0_doPin_X2_setPin rfl hd9_X2_setPin rfl rfl ⟨(by decide), by decide⟩ ⟨rfl, rfl⟩ (Nat.le_of_ble_eq_true rfl) dX0_doPin_73 rfl (fun x9 hf => ?_)
        refine q_if_ne (tgt := 83) hf dX0_doPin_76 (by decide) (fun hf _ => ?_) (fun hf _ => ?_)
        · refine pw_iconst (v := (0)) dX0_doPin_83 (by decide) ?_
          exact pw_iret (x := (0 : Int32)) rfl rfl dX0_doPin_84 (ret_iw hf)
        · refine pw_iconst (v := (1)) dX0_doPin_79 (by decide) ?_
          refine pw_goto (tgt := 84) dX0_doPin_80 (by decide) ?_
          exact pw_iret (x := (1 : Int32)) rfl rfl dX0_doPin_84 (ret_iw hf)
    · refine pw_aload_n dX0_doPin_44 rfl ?_
      refine q_gRN (host := "TwinRows") hf rfl (by decide) w9_X0_doPin_X2 (by decide +kernel) dX0_doPin_45 (fun x10 hf => ?_)
      refine pw_iload_n dX0_doPin_48 rfl ?_
      refine q_iald hf dX0_doPin_49 (fun x11 hf => ?_)
      refine q_if_eq (tgt := 57) hf dX0_doPin_50 (by decide) (fun hf _ => ?_) (fun hf _ => ?_)
      · refine pw_iconst (v := (0)) dX0_doPin_57 (by decide) ?_
        refine pw_istore dX0_doPin_58 (by decide) rfl ?_
        dsimp only [lset, lset2, clr]
        refine pw_aload_n dX0_doPin_60 rfl ?_
        refine pw_iload_n dX0_doPin_61 rfl ?_
        refine pw_iload dX0_doPin_62 rfl ?_
        refine q_if_eq (tgt := 71) hf dX0_doPin_64 (by decide) (fun hf _ => ?_) (fun hf _ => ?_)
        · refine pw_iload dX0_doPin_71 rfl ?_
          refine q_callV_iw (kc2 := 0) (ks2 := 0) (as := [.int x4, .int (x6.1 + (1 : Int32))]) (rest := []) hf (fun x9 e9 => t_X2_setPin e9) gX0_doPin_X2_setPin rfl hd9_X2_setPin rfl rfl ⟨(by decide), by decide⟩ ⟨rfl, rfl⟩ (Nat.le_of_ble_eq_true rfl) dX0_doPin_73 rfl (fun x12 hf => ?_)
          refine q_if_ne (tgt := 83) hf dX0_doPin_76 (by decide) (fun hf _ => ?_) (fun hf _ => ?_)
          · refine pw_iconst (v := (0)) dX0_doPin_83 (by decide) ?_
            exact pw_iret (x := (0 : Int32)) rfl rfl dX0_doPin_84 (ret_iw hf)
          · refine pw_iconst (v := (1)) dX0_doPin_79 (by decide) ?_
            refine pw_goto (tgt := 84) dX0_doPin_80 (by decide) ?_
            exact pw_iret (x := (1 : Int32)) rfl rfl dX0_doPin_84 (ret_iw hf)
        · refine pw_iconst (v := (0)) dX0_doPin_67 (by decide) ?_
          refine pw_goto (tgt := 73) dX0_doPin_68 (by decide) ?_
          refine q_callV_iw (kc2 := 0) (ks2 := 0) (as := [.int x4, .int (0 : Int32)]) (rest := []) hf (fun x9 e9 => t_X2_setPin e9) gX0_doPin_X2_setPin rfl hd9_X2_setPin rfl rfl ⟨(by decide), by decide⟩ ⟨rfl, rfl⟩ (Nat.le_of_ble_eq_true rfl) dX0_doPin_73 rfl (fun x13 hf => ?_)
          refine q_if_ne (tgt := 83) hf dX0_doPin_76 (by decide) (fun hf _ => ?_) (fun hf _ => ?_)
          · refine pw_iconst (v := (0)) dX0_doPin_83 (by decide) ?_
            exact pw_iret (x := (0 : Int32)) rfl rfl dX0_doPin_84 (ret_iw hf)
          · refine pw_iconst (v := (1)) dX0_doPin_79 (by decide) ?_
            refine pw_goto (tgt := 84) dX0_doPin_80 (by decide) ?_
            exact pw_iret (x := (1 : Int32)) rfl rfl dX0_doPin_84 (ret_iw hf)
      · refine pw_iconst (v := (1)) dX0_doPin_53 (by decide) ?_
        refine pw_goto (tgt := 58) dX0_doPin_54 (by decide) ?_
        refine pw_istore dX0_doPin_58 (by decide) rfl ?_
        dsimp only [lset, lset2, clr]
        refine pw_aload_n dX0_doPin_60 rfl ?_
        refine pw_iload_n dX0_doPin_61 rfl ?_
        refine pw_iload dX0_doPin_62 rfl ?_
        refine q_if_eq (tgt := 71) hf dX0_doPin_64 (by decide) (fun hf _ => ?_) (fun hf _ => ?_)
        · refine pw_iload dX0_doPin_71 rfl ?_
          refine q_callV_iw (kc2 := 0) (ks2 := 0) (as := [.int x4, .int (x6.1 + (1 : Int32))]) (rest := []) hf (fun x9 e9 => t_X2_setPin e9) gX0_doPin_X2_setPin rfl hd9_X2_setPin rfl rfl ⟨(by decide), by decide⟩ ⟨rfl, rfl⟩ (Nat.le_of_ble_eq_true rfl) dX0_doPin_73 rfl (fun x14 hf => ?_)
          refine q_if_ne (tgt := 83) hf dX0_doPin_76 (by decide) (fun hf _ => ?_) (fun hf _ => ?_)
          · refine pw_iconst (v := (0)) dX0_doPin_83 (by decide) ?_
            exact pw_iret (x := (0 : Int32)) rfl rfl dX0_doPin_84 (ret_iw hf)
          · refine pw_iconst (v := (1)) dX0_doPin_79 (by decide) ?_
            refine pw_goto (tgt := 84) dX0_doPin_80 (by decide) ?_
            exact pw_iret (x := (1 : Int32)) rfl rfl dX0_doPin_84 (ret_iw hf)
        · refine pw_iconst (v := (0)) dX0_doPin_67 (by decide) ?_
          refine pw_goto (tgt := 73) dX0_doPin_68 (by decide) ?_
          refine q_callV_iw (kc2 := 0) (ks2 := 0) (as := [.int x4, .int (0 : Int32)]) (rest := []) hf (fun x9 e9 => t_X2_setPin e9) gX0_doPin_X2_setPin rfl hd9_X2_setPin rfl rfl ⟨(by decide), by decide⟩ ⟨rfl, rfl⟩ (Nat.le_of_ble_eq_true rfl) dX0_doPin_73 rfl (fun x15 hf => ?_)
          refine q_if_ne (tgt := 83) hf dX0_doPin_76 (by decide) (fun hf _ => ?_) (fun hf _ => ?_)
          · refine pw_iconst (v := (0)) dX0_doPin_83 (by decide) ?_
            exact pw_iret (x := (0 : Int32)) rfl rfl dX0_doPin_84 (ret_iw hf)
          · refine pw_iconst (v := (1)) dX0_doPin_79 (by decide) ?_
            refine pw_goto (tgt := 84) dX0_doPin_80 (by decide) ?_
            exact pw_iret (x := (1 : Int32)) rfl rfl dX0_doPin_84 (ret_iw hf)
  · refine pw_iconst (v := (0)) dX0_doPin_12 (by decide) ?_
    exact pw_iret (x := (0 : Int32)) rfl rfl dX0_doPin_13 (ret_iw hf)
/-! X0_doDeed -/
abbrev m_X0_doDeed : MD := (cX0_doDeed, RX0, "doDeed", wsX0_doDeed, 4, (some .boolean))
theorem w9_X0_doDeed_X2 : ∀ w ∈ u_ws RX2 TX2 4, w ∈ wsX0_doDeed := by decide +kernel
theorem hd9_X0_doDeed : yX0_doDeed.cls = RX0 ∧ yX0_doDeed.cls ≠ "java/lang/invoke/MethodHandle" ∧ yX0_doDeed.cls ≠ "java/lang/invoke/VarHandle" ∧ (parseMethodDescriptor yX0_doDeed.desc).map (fun d => d.parameters.length) = some 1 := by decide +kernel
def f_X0_doDeed (h : Hp) (a0 : Nat) (a1 : Nat) : Option (Int32 × Hp) := if oK h a0 0 = true then (f_X0_draw h a0 (4 : Int32)).bind fun x1 => (gI x1.2 a1 2 0).bind fun x2 => if x2 = 0 then (some (((0 : Int32), x1.2))) else (if x1.1 = 0 then ((gI x1.2 a1 2 0).bind fun x8 => if oK x1.2 a0 0 = true then (f_X0_draw x1.2 a0 x8).bind fun x9 => if oK x9.2 a1 2 = true then (f_X2_hasHole x9.2 a1 (x9.1 + (1 : Int32))).bind fun x10 => if x10 = 0 then (if oK x9.2 a1 2 = true then (f_X2_setHole x9.2 a1 (x9.1 + (1 : Int32)) (1 : Int32)).bind fun x12 => if x12.1 = (-1 : Int32) then (some (((0 : Int32), x12.2))) else (some (((1 : Int32), x12.2))) else none) else (if oK x9.2 a1 2 = true then (f_X2_setHole x9.2 a1 (x9.1 + (1 : Int32)) (0 : Int32)).bind fun x11 => if x11.1 = (-1 : Int32) then (some (((0 : Int32), x11.2))) else (some (((1 : Int32), x11.2))) else none) else none else none) else (if x1.1 = (1 : Int32) then (if oK x1.2 a0 0 = true then (f_X0_draw x1.2 a0 (15 : Int32)).bind fun x4 => if oK x4.2 a1 2 = true then (f_X2_hasPair x4.2 a1 (x4.1 + (1 : Int32))).bind fun x5 => if x5 = 0 then (if oK x4.2 a1 2 = true then (f_X2_setPair x4.2 a1 (x4.1 + (1 : Int32)) (1 : Int32)).bind fun x7 => if x7.1 = (-1 : Int32) then (some (((0 : Int32), x7.2))) else (some (((1 : Int32), x7.2))) else none) else (if oK x4.2 a1 2 = true then (f_X2_setPair x4.2 a1 (x4.1 + (1 : Int32)) (0 : Int32)).bind fun x6 => if x6.1 = (-1 : Int32) then (some (((0 : Int32), x6.2))) else (some (((1 : Int32), x6.2))) else none) else none else none) else (if oK x1.2 a0 0 = true then (f_X0_doPin x1.2 a0 a1).bind fun x3 => if x3.1 = 0 ∨ x3.1 = 1 then some ((x3.1, x3.2)) else none else none))) else none
set_option maxHeartbeats 4000000 in
set_option maxRecDepth 100000 in
theorem t_X0_doDeed {g : GT} {l : Launch} {h : Hp} {a0 : Nat} {a1 : Nat} {r : (Int32 × Hp)} (hf : f_X0_doDeed h a0 a1 = some r) : PM g l 5 0 0 yX0_doDeed wsX0_doDeed [.ref a0, .ref a1] h (fun r9 h9 => r9 = some (.int r.1) ∧ h9 = r.2) := by
  refine pm_of (M := m_X0_doDeed) (by decide) rfl rfl rfl (Nat.le_of_ble_eq_true rfl) (lo := [some (.ref a0), some (.ref a1), none, none]) rfl ?_
  rw [f_X0_doDeed] at hf
  refine pw_aload_n dX0_doDeed_0 rfl ?_
  refine pw_iconst (v := (4)) dX0_doDeed_1 (by decide) ?_
  refine q_callV_iw (kc2 := 0) (ks2 := 0) (as := [.int (4 : Int32)]) (rest := []) hf (fun x9 e9 => t_X0_draw e9) gX0_doDeed_X0_draw rfl hd9_X0_draw rfl rfl ⟨(by decide), by decide⟩ ⟨rfl, rfl⟩ (Nat.le_of_ble_eq_true rfl) dX0_doDeed_2 rfl (fun x1 hf => ?_)
  refine pw_istore_n dX0_doDeed_5 (by decide) rfl ?_
  dsimp only [lset, lset2, clr]
  refine pw_aload_n dX0_doDeed_6 rfl ?_
  refine q_gIN (host := "TwinRows") hf rfl (by decide) w9_X0_doDeed_X2 (by decide +kernel) dX0_doDeed_7 (fun x2 hf => ?_)
  refine q_if_ne (tgt := 15) hf dX0_doDeed_10 (by decide) (fun hf _ => ?_) (fun hf _ => ?_)
  · refine pw_iload_n dX0_doDeed_15 rfl ?_
    refine q_if_ne (tgt := 58) hf dX0_doDeed_16 (by decide) (fun hf _ => ?_) (fun hf _ => ?_)
    · refine pw_iload_n dX0_doDeed_58 rfl ?_
      refine pw_iconst (v := (1)) dX0_doDeed_59 (by decide) ?_
      refine q_icmp_ne (tgt := 100) hf dX0_doDeed_60 (by decide) (fun hf _ => ?_) (fun hf _ => ?_)
      · refine pw_aload_n dX0_doDeed_100 rfl ?_
        refine pw_aload_n dX0_doDeed_101 rfl ?_
        refine q_callV_iw (kc2 := 0) (ks2 := 0) (as := [.ref a1]) (rest := []) hf (fun x9 e9 => t_X0_doPin e9) gX0_doDeed_X0_doPin rfl hd9_X0_doPin rfl rfl ⟨(by decide), by decide⟩ ⟨rfl, rfl⟩ (Nat.le_of_ble_eq_true rfl) dX0_doDeed_102 rfl (fun x3 hf => ?_)
        obtain ⟨hb9, hf⟩ := iteN hf
        exact pw_iret (x := x3.1) rfl (narZ hb9) dX0_doDeed_105 (ret_iw hf)
      · refine pw_aload_n dX0_doDeed_63 rfl ?_
        refine pw_bipush (v := (15)) dX0_doDeed_64 (by decide) ?_
        refine q_callV_iw (kc2 := 0) (ks2 := 0) (as := [.int (15 : Int32)]) (rest := []) hf (fun x9 e9 => t_X0_draw e9) gX0_doDeed_X0_draw rfl hd9_X0_draw rfl rfl ⟨(by decide), by decide⟩ ⟨rfl, rfl⟩ (Nat.le_of_ble_eq_true rfl) dX0_doDeed_66 rfl (fun x4 hf => ?_)
        refine pw_iconst (v := (1)) dX0_doDeed_69 (by decide) ?_
        refine pw_iadd dX0_doDeed_70 ?_
        refine pw_istore_n dX0_doDeed_71 (by decide) rfl ?_
        dsimp only [lset, lset2, clr]
        refine pw_aload_n dX0_doDeed_72 rfl ?_
        refine pw_iload_n dX0_doDeed_73 rfl ?_
        refine pw_aload_n dX0_doDeed_74 rfl ?_
        refine pw_iload_n dX0_doDeed_75 rfl ?_
        refine q_callV_i (kc2 := 0) (ks2 := 0) (as := [.int (x4.1 + (1 : Int32))]) (rest := [.int (x4.1 + (1 : Int32)), .ref a1]) hf (fun x9 e9 => t_X2_hasPair e9) gX0_doDeed_X2_hasPair rfl hd9_X2_hasPair rfl rfl ⟨(by decide), by decide⟩ ⟨rfl, rfl⟩ (Nat.le_of_ble_eq_true rfl) dX0_doDeed_76 rfl (fun x5 hf => ?_)
        refine q_if_ne (tgt := 86) hf dX0_doDeed_79 (by decide) (fun hf _ => ?_) (fun hf _ => ?_)
        · refine pw_iconst (v := (0)) dX0_doDeed_86 (by decide) ?_
          refine q_callV_iw (kc2 := 0) (ks2 := 0) (as := [.int (x4.1 + (1 : Int32)), .int (0 : Int32)]) (rest := []) hf (fun x9 e9 => t_X2_setPair e9) gX0_doDeed_X2_setPair rfl hd9_X2_setPair rfl rfl ⟨(by decide), by decide⟩ ⟨rfl, rfl⟩ (Nat.le_of_ble_eq_true rfl) dX0_doDeed_87 rfl (fun x6 hf => ?_)
          refine pw_iconst (v := (-1)) dX0_doDeed_90 (by decide) ?_
          refine q_icmp_eq (tgt := 98) hf dX0_doDeed_91 (by decide) (fun hf _ => ?_) (fun hf _ => ?_)
          · refine pw_iconst (v := (0)) dX0_doDeed_98 (by decide) ?_
            exact pw_iret (x := (0 : Int32)) rfl rfl dX0_doDeed_99 (ret_iw hf)
          · refine pw_iconst (v := (1)) dX0_doDeed_94 (by decide) ?_
            refine pw_goto (tgt := 99) dX0_doDeed_95 (by decide) ?_
            exact pw_iret (x := (1 : Int32)) rfl rfl dX0_doDeed_99 (ret_iw hf)
        · refine pw_iconst (v := (1)) dX0_doDeed_82 (by decide) ?_
          refine pw_goto (tgt := 87) dX0_doDeed_83 (by decide) ?_
          refine q_callV_iw (kc2 := 0) (ks2 := 0) (as := [.int (x4.1 + (1 : Int32)), .int (1 : Int32)]) (rest := []) hf (fun x9 e9 => t_X2_setPair e9) gX0_doDeed_X2_setPair rfl hd9_X2_setPair rfl rfl ⟨(by decide), by decide⟩ ⟨rfl, rfl⟩ (Nat.le_of_ble_eq_true rfl) dX0_doDeed_87 rfl (fun x7 hf => ?_)
          refine pw_iconst (v := (-1)) dX0_doDeed_90 (by decide) ?_
          refine q_icmp_eq (tgt := 98) hf dX0_doDeed_91 (by decide) (fun hf _ => ?_) (fun hf _ => ?_)
          · refine pw_iconst (v := (0)) dX0_doDeed_98 (by decide) ?_
            exact pw_iret (x := (0 : Int32)) rfl rfl dX0_doDeed_99 (ret_iw hf)
          · refine pw_iconst (v := (1)) dX0_doDeed_94 (by decide) ?_
            refine pw_goto (tgt := 99) dX0_doDeed_95 (by decide) ?_
            exact pw_iret (x := (1 : Int32)) rfl rfl dX0_doDeed_99 (ret_iw hf)
    · refine pw_aload_n dX0_doDeed_19 rfl ?_
      refine pw_aload_n dX0_doDeed_20 rfl ?_
      refine q_gIN (host := "TwinRows") hf rfl (by decide) w9_X0_doDeed_X2 (by decide +kernel) dX0_doDeed_21 (fun x8 hf => ?_)
      refine q_callV_iw (kc2 := 0) (ks2 := 0) (as := [.int x8]) (rest := []) hf (fun x9 e9 => t_X0_draw e9) gX0_doDeed_X0_draw rfl hd9_X0_draw rfl rfl ⟨(by decide), by decide⟩ ⟨rfl, rfl⟩ (Nat.le_of_ble_eq_true rfl) dX0_doDeed_24 rfl (fun x9 hf => ?_)
      refine pw_iconst (v := (1)) dX0_doDeed_27 (by decide) ?_
      refine pw_iadd dX0_doDeed_28 ?_
      refine pw_istore_n dX0_doDeed_29 (by decide) rfl ?_
      dsimp only [lset, lset2, clr]
      refine pw_aload_n dX0_doDeed_30 rfl ?_
      refine pw_iload_n dX0_doDeed_31 rfl ?_
      refine pw_aload_n dX0_doDeed_32 rfl ?_
      refine pw_iload_n dX0_doDeed_33 rfl ?_
      refine q_callV_i (kc2 := 0) (ks2 := 0) (as := [.int (x9.1 + (1 : Int32))]) (rest := [.int (x9.1 + (1 : Int32)), .ref a1]) hf (fun x9 e9 => t_X2_hasHole e9) gX0_doDeed_X2_hasHole rfl hd9_X2_hasHole rfl rfl ⟨(by decide), by decide⟩ ⟨rfl, rfl⟩ (Nat.le_of_ble_eq_true rfl) dX0_doDeed_34 rfl (fun x10 hf => ?_)
      refine q_if_ne (tgt := 44) hf dX0_doDeed_37 (by decide) (fun hf _ => ?_) (fun hf _ => ?_)
      · refine pw_iconst (v := (0)) dX0_doDeed_44 (by decide) ?_
        refine q_callV_iw (kc2 := 0) (ks2 := 0) (as := [.int (x9.1 + (1 : Int32)), .int (0 : Int32)]) (rest := []) hf (fun x9 e9 => t_X2_setHole e9) gX0_doDeed_X2_setHole rfl hd9_X2_setHole rfl rfl ⟨(by decide), by decide⟩ ⟨rfl, rfl⟩ (Nat.le_of_ble_eq_true rfl) dX0_doDeed_45 rfl (fun x11 hf => ?_)
        refine pw_iconst (v := (-1)) dX0_doDeed_48 (by decide) ?_
        refine q_icmp_eq (tgt := 56) hf dX0_doDeed_49 (by decide) (fun hf _ => ?_) (fun hf _ => ?_)
        · refine pw_iconst (v := (0)) dX0_doDeed_56 (by decide) ?_
          exact pw_iret (x := (0 : Int32)) rfl rfl dX0_doDeed_57 (ret_iw hf)
        · refine pw_iconst (v := (1)) dX0_doDeed_52 (by decide) ?_
          refine pw_goto (tgt := 57) dX0_doDeed_53 (by decide) ?_
          exact pw_iret (x := (1 : Int32)) rfl rfl dX0_doDeed_57 (ret_iw hf)
      · refine pw_iconst (v := (1)) dX0_doDeed_40 (by decide) ?_
        refine pw_goto (tgt := 45) dX0_doDeed_41 (by decide) ?_
        refine q_callV_iw (kc2 := 0) (ks2 := 0) (as := [.int (x9.1 + (1 : Int32)), .int (1 : Int32)]) (rest := []) hf (fun x9 e9 => t_X2_setHole e9) gX0_doDeed_X2_setHole rfl hd9_X2_setHole rfl rfl ⟨(by decide), by decide⟩ ⟨rfl, rfl⟩ (Nat.le_of_ble_eq_true rfl) dX0_doDeed_45 rfl (fun x12 hf => ?_)
        refine pw_iconst (v := (-1)) dX0_doDeed_48 (by decide) ?_
        refine q_icmp_eq (tgt := 56) hf dX0_doDeed_49 (by decide) (fun hf _ => ?_) (fun hf _ => ?_)
        · refine pw_iconst (v := (0)) dX0_doDeed_56 (by decide) ?_
          exact pw_iret (x := (0 : Int32)) rfl rfl dX0_doDeed_57 (ret_iw hf)
        · refine pw_iconst (v := (1)) dX0_doDeed_52 (by decide) ?_
          refine pw_goto (tgt := 57) dX0_doDeed_53 (by decide) ?_
          exact pw_iret (x := (1 : Int32)) rfl rfl dX0_doDeed_57 (ret_iw hf)
  · refine pw_iconst (v := (0)) dX0_doDeed_13 (by decide) ?_
    exact pw_iret (x := (0 : Int32)) rfl rfl dX0_doDeed_14 (ret_iw hf)
/-! X3_init -/
abbrev m_X3_init : MD := (cX3_init, RX3, "<init>", wsX3_init, 1, none)
theorem w9_X3_init_X3 : ∀ w ∈ u_ws RX3 TX3 3, w ∈ wsX3_init := by decide +kernel
theorem hd9_X3_init : yX3_init.cls = RX3 ∧ yX3_init.cls ≠ "java/lang/invoke/MethodHandle" ∧ yX3_init.cls ≠ "java/lang/invoke/VarHandle" ∧ (parseMethodDescriptor yX3_init.desc).map (fun d => d.parameters.length) = some 0 := by decide +kernel
def f_X3_init (h : Hp) (a0 : Nat) : Option Hp := (nA h 4 8 (8 : Int32)).bind fun x1 => (pV x1.2 a0 3 0 (.ref x1.1)).bind fun h2 => (pV h2 a0 3 1 (.int (0 : Int32))).bind fun h3 => (pV h3 a0 3 2 (.int (0 : Int32))).bind fun h4 => some h4
theorem hd8_X3_init : yX3_init.cls ≠ "java/lang/invoke/MethodHandle" ∧ yX3_init.cls ≠ "java/lang/invoke/VarHandle" ∧ (parseMethodDescriptor yX3_init.desc).map (fun d => d.parameters.length) = some 0 := hd9_X3_init.2
set_option maxHeartbeats 4000000 in
set_option maxRecDepth 100000 in
theorem t_X3_init {g : GT} {l : Launch} {h : Hp} {a0 : Nat} {r : Hp} (hf : f_X3_init h a0 = some r) : PM g l 1 1 8 yX3_init wsX3_init [.ref a0] h (fun r9 h9 => r9 = none ∧ h9 = r) := by
  refine pm_of (M := m_X3_init) (by decide) rfl rfl rfl (Nat.le_of_ble_eq_true rfl) (lo := [some (.ref a0)]) rfl ?_
  rw [f_X3_init] at hf
  refine pw_aload_n dX3_init_0 rfl ?_
  refine pw_obj (by decide +kernel) (by decide +kernel) (by decide +kernel) (by decide) (Nat.le_of_ble_eq_true rfl) dX3_init_1 ?_
  refine pw_aload_n dX3_init_4 rfl ?_
  refine pw_bipush (v := (8)) dX3_init_5 (by decide) ?_
  refine q_anew (kc2 := 0) (ks2 := 0) hf (by decide +kernel) (by decide) ⟨rfl, rfl⟩ dX3_init_7 (fun x1 hf => ?_)
  refine q_pVF (ty := .array (.object "TwinRows$Frame")) hf tyX3 tyX3_ok nmX3 rfl (by decide) w9_X3_init_X3 (by decide +kernel) rfl rfl rfl (by decide +kernel) rfl rfl dX3_init_10 (fun h2 hf => ?_)
  refine pw_aload_n dX3_init_13 rfl ?_
  refine pw_iconst (v := (0)) dX3_init_14 (by decide) ?_
  refine q_pV (ty := .int) hf tyX3 tyX3_ok nmX3 rfl (by decide) w9_X3_init_X3 (by decide +kernel) rfl (by decide +kernel) rfl rfl dX3_init_15 (fun h3 hf => ?_)
  refine pw_aload_n dX3_init_18 rfl ?_
  refine pw_iconst (v := (0)) dX3_init_19 (by decide) ?_
  refine q_pV (ty := .int) hf tyX3 tyX3_ok nmX3 rfl (by decide) w9_X3_init_X3 (by decide +kernel) rfl (by decide +kernel) rfl rfl dX3_init_20 (fun h4 hf => ?_)
  exact pw_vret rfl dX3_init_23 ⟨rfl, Option.some.inj hf⟩
/-! X3_keep -/
abbrev m_X3_keep : MD := (cX3_keep, RX3, "keep", wsX3_keep, 2, none)
theorem w9_X3_keep_X2 : ∀ w ∈ u_ws RX2 TX2 4, w ∈ wsX3_keep := by decide +kernel
theorem w9_X3_keep_X3 : ∀ w ∈ u_ws RX3 TX3 3, w ∈ wsX3_keep := by decide +kernel
theorem hd9_X3_keep : yX3_keep.cls = RX3 ∧ yX3_keep.cls ≠ "java/lang/invoke/MethodHandle" ∧ yX3_keep.cls ≠ "java/lang/invoke/VarHandle" ∧ (parseMethodDescriptor yX3_keep.desc).map (fun d => d.parameters.length) = some 1 := by decide +kernel
def f_X3_keep (h : Hp) (a0 : Nat) (a1 : Nat) : Option Hp := (gI h a0 3 1).bind fun x1 => (pV h a0 3 1 (.int ((x1 + (1 : Int32)) - (x1 + (1 : Int32)) / (8 : Int32) * (8 : Int32)))).bind fun h2 => (gR h2 a0 3 0).bind fun x3 => (gI h2 a0 3 1).bind fun x4 => (aQ h2 4 x3 x4).bind fun x22 => if x22.isSome = true then ((gR h2 a0 3 0).bind fun x5 => (gI h2 a0 3 1).bind fun x6 => (aR h2 4 x5 x6).bind fun x7 => if oK h2 x7 2 = true then (f_X2_copy h2 x7 a1).bind fun h8 => (gI h8 a0 3 2).bind fun x9 => (pV h8 a0 3 2 (.int (if (8 : Int32) < (x9 + (1 : Int32)) then (8 : Int32) else (x9 + (1 : Int32))))).bind fun h10 => some h10 else none) else ((gR h2 a0 3 0).bind fun x11 => (gI h2 a0 3 1).bind fun x12 => (nO h2 2 [.int 0, .int 0, .int 0, .null]).bind fun x13 => (f_X2_init x13.2 x13.1).bind fun h14 => (sQ h14 x11 x12 x13.1).bind fun h15 => (gR h15 a0 3 0).bind fun x16 => (gI h15 a0 3 1).bind fun x17 => (aR h15 4 x16 x17).bind fun x18 => if oK h15 x18 2 = true then (f_X2_copy h15 x18 a1).bind fun h19 => (gI h19 a0 3 2).bind fun x20 => (pV h19 a0 3 2 (.int (if (8 : Int32) < (x20 + (1 : Int32)) then (8 : Int32) else (x20 + (1 : Int32))))).bind fun h21 => some h21 else none)
set_option maxHeartbeats 4000000 in
set_option maxRecDepth 100000 in
theorem t_X3_keep {g : GT} {l : Launch} {h : Hp} {a0 : Nat} {a1 : Nat} {r : Hp} (hf : f_X3_keep h a0 a1 = some r) : PM g l 2 2 20 yX3_keep wsX3_keep [.ref a0, .ref a1] h (fun r9 h9 => r9 = none ∧ h9 = r) := by
  refine pm_of (M := m_X3_keep) (by decide) rfl rfl rfl (Nat.le_of_ble_eq_true rfl) (lo := [some (.ref a0), some (.ref a1)]) rfl ?_
  rw [f_X3_keep] at hf
  refine pw_aload_n dX3_keep_0 rfl ?_
  refine pw_aload_n dX3_keep_1 rfl ?_
  refine q_gI hf rfl (by decide) w9_X3_keep_X3 (by decide +kernel) dX3_keep_2 (fun x1 hf => ?_)
  refine pw_iconst (v := (1)) dX3_keep_5 (by decide) ?_
  refine pw_iadd dX3_keep_6 ?_
  refine pw_bipush (v := (8)) dX3_keep_7 (by decide) ?_
  refine pw_irem dX3_keep_9 (by decide) ?_
  refine q_pV (ty := .int) hf tyX3 tyX3_ok nmX3 rfl (by decide) w9_X3_keep_X3 (by decide +kernel) rfl (by decide +kernel) rfl rfl dX3_keep_10 (fun h2 hf => ?_)
  refine pw_aload_n dX3_keep_13 rfl ?_
  refine q_gR hf rfl (by decide) w9_X3_keep_X3 (by decide +kernel) dX3_keep_14 (fun x3 hf => ?_)
  refine pw_aload_n dX3_keep_17 rfl ?_
  refine q_gI hf rfl (by decide) w9_X3_keep_X3 (by decide +kernel) dX3_keep_18 (fun x4 hf => ?_)
  refine q_aaldN hf (by decide) rfl dX3_keep_21 (fun x22 hf ex22 => ?_) (fun hf ex22 => ?_)
  · refine pw_ifnonnull (tgt := 41) dX3_keep_22 (by decide) ?_
    refine pw_aload_n dX3_keep_41 rfl ?_
    refine q_gR hf rfl (by decide) w9_X3_keep_X3 (by decide +kernel) dX3_keep_42 (fun x5 hf => ?_)
    refine pw_aload_n dX3_keep_45 rfl ?_
    refine q_gI hf rfl (by decide) w9_X3_keep_X3 (by decide +kernel) dX3_keep_46 (fun x6 hf => ?_)
    refine q_aald hf (by decide) rfl dX3_keep_49 (fun x7 hf => ?_)
    refine pw_aload_n dX3_keep_50 rfl ?_
    refine q_callV_v (kc2 := 2) (ks2 := 20) (as := [.ref a1]) (rest := []) hf (fun x9 e9 => t_X2_copy e9) gX3_keep_X2_copy rfl hd9_X2_copy rfl rfl ⟨(by decide), by decide⟩ ⟨rfl, rfl⟩ (Nat.le_of_ble_eq_true rfl) dX3_keep_51 rfl (fun h8 hf => ?_)
    refine pw_aload_n dX3_keep_54 rfl ?_
    refine pw_aload_n dX3_keep_55 rfl ?_
    refine q_gI hf rfl (by decide) w9_X3_keep_X3 (by decide +kernel) dX3_keep_56 (fun x9 hf => ?_)
    refine pw_iconst (v := (1)) dX3_keep_59 (by decide) ?_
    refine pw_iadd dX3_keep_60 ?_
    refine pw_bipush (v := (8)) dX3_keep_61 (by decide) ?_
    refine pw_min (by decide +kernel) (by decide +kernel) (by decide +kernel) (by decide +kernel) (by decide) (Nat.le_of_ble_eq_true rfl) dX3_keep_63 ?_
    refine q_pV (ty := .int) hf tyX3 tyX3_ok nmX3 rfl (by decide) w9_X3_keep_X3 (by decide +kernel) rfl (by decide +kernel) rfl rfl dX3_keep_66 (fun h10 hf => ?_)
    exact pw_vret rfl dX3_keep_69 ⟨rfl, Option.some.inj hf⟩
  · refine pw_ifnonnullN dX3_keep_22 ?_
    refine pw_aload_n dX3_keep_25 rfl ?_
    refine q_gR hf rfl (by decide) w9_X3_keep_X3 (by decide +kernel) dX3_keep_26 (fun x11 hf => ?_)
    refine pw_aload_n dX3_keep_29 rfl ?_
    refine q_gI hf rfl (by decide) w9_X3_keep_X3 (by decide +kernel) dX3_keep_30 (fun x12 hf => ?_)
    refine q_new (kc2 := 1) (ks2 := 16) hf tyX2 tyX2_ok rfl w9_X3_keep_X2 (by decide +kernel) (by decide +kernel) (by decide +kernel) (fun j hj => by rcases (show j = 0 ∨ j = 1 ∨ j = 2 ∨ j = 3 by omega) with rfl | rfl | rfl | rfl <;> rfl) ⟨rfl, rfl⟩ dX3_keep_33 (fun x13 hf => ?_)
    refine pw_dup dX3_keep_36 rfl ?_
    refine q_callIN_v (host := "TwinRows") (kc2 := 0) (ks2 := 0) (as := []) (rest := [.ref x13.1, .int x12, .ref x11]) hf (fun x9 e9 => t_X2_init e9) gX3_keep_X2_init_n24 (by decide +kernel) (by decide +kernel) (by decide +kernel) rfl rfl hd8_X2_init rfl ⟨by decide, by decide⟩ ⟨rfl, rfl⟩ (Nat.le_of_ble_eq_true rfl) dX3_keep_37 rfl (fun h14 hf => ?_)
    refine q_aast hf dX3_keep_40 (fun h15 hf => ?_)
    refine pw_aload_n dX3_keep_41 rfl ?_
    refine q_gR hf rfl (by decide) w9_X3_keep_X3 (by decide +kernel) dX3_keep_42 (fun x16 hf => ?_)
    refine pw_aload_n dX3_keep_45 rfl ?_
    refine q_gI hf rfl (by decide) w9_X3_keep_X3 (by decide +kernel) dX3_keep_46 (fun x17 hf => ?_)
    refine q_aald hf (by decide) rfl dX3_keep_49 (fun x18 hf => ?_)
    refine pw_aload_n dX3_keep_50 rfl ?_
    refine q_callV_v (kc2 := 0) (ks2 := 0) (as := [.ref a1]) (rest := []) hf (fun x9 e9 => t_X2_copy e9) gX3_keep_X2_copy rfl hd9_X2_copy rfl rfl ⟨(by decide), by decide⟩ ⟨rfl, rfl⟩ (Nat.le_of_ble_eq_true rfl) dX3_keep_51 rfl (fun h19 hf => ?_)
    refine pw_aload_n dX3_keep_54 rfl ?_
    refine pw_aload_n dX3_keep_55 rfl ?_
    refine q_gI hf rfl (by decide) w9_X3_keep_X3 (by decide +kernel) dX3_keep_56 (fun x20 hf => ?_)
    refine pw_iconst (v := (1)) dX3_keep_59 (by decide) ?_
    refine pw_iadd dX3_keep_60 ?_
    refine pw_bipush (v := (8)) dX3_keep_61 (by decide) ?_
    refine pw_min (by decide +kernel) (by decide +kernel) (by decide +kernel) (by decide +kernel) (by decide) (Nat.le_of_ble_eq_true rfl) dX3_keep_63 ?_
    refine q_pV (ty := .int) hf tyX3 tyX3_ok nmX3 rfl (by decide) w9_X3_keep_X3 (by decide +kernel) rfl (by decide +kernel) rfl rfl dX3_keep_66 (fun h21 hf => ?_)
    exact pw_vret rfl dX3_keep_69 ⟨rfl, Option.some.inj hf⟩
/-! X3_takeLatest -/
abbrev m_X3_takeLatest : MD := (cX3_takeLatest, RX3, "takeLatest", wsX3_takeLatest, 2, none)
theorem w9_X3_takeLatest_X3 : ∀ w ∈ u_ws RX3 TX3 3, w ∈ wsX3_takeLatest := by decide +kernel
theorem hd9_X3_takeLatest : yX3_takeLatest.cls = RX3 ∧ yX3_takeLatest.cls ≠ "java/lang/invoke/MethodHandle" ∧ yX3_takeLatest.cls ≠ "java/lang/invoke/VarHandle" ∧ (parseMethodDescriptor yX3_takeLatest.desc).map (fun d => d.parameters.length) = some 1 := by decide +kernel
def f_X3_takeLatest (h : Hp) (a0 : Nat) (a1 : Nat) : Option Hp := (gI h a0 3 2).bind fun x1 => if x1 = 0 then (some h) else ((gR h a0 3 0).bind fun x2 => (gI h a0 3 1).bind fun x3 => (aQ h 4 x2 x3).bind fun x12 => if x12.isSome = true then ((gR h a0 3 0).bind fun x4 => (gI h a0 3 1).bind fun x5 => (aR h 4 x4 x5).bind fun x6 => if oK h a1 2 = true then (f_X2_copy h a1 x6).bind fun h7 => (gI h7 a0 3 1).bind fun x8 => (pV h7 a0 3 1 (.int (((x8 + (8 : Int32)) - (1 : Int32)) - ((x8 + (8 : Int32)) - (1 : Int32)) / (8 : Int32) * (8 : Int32)))).bind fun h9 => (gI h9 a0 3 2).bind fun x10 => (pV h9 a0 3 2 (.int (x10 - (1 : Int32)))).bind fun h11 => some h11 else none) else (some h))
set_option maxHeartbeats 4000000 in
set_option maxRecDepth 100000 in
theorem t_X3_takeLatest {g : GT} {l : Launch} {h : Hp} {a0 : Nat} {a1 : Nat} {r : Hp} (hf : f_X3_takeLatest h a0 a1 = some r) : PM g l 2 0 0 yX3_takeLatest wsX3_takeLatest [.ref a0, .ref a1] h (fun r9 h9 => r9 = none ∧ h9 = r) := by
  refine pm_of (M := m_X3_takeLatest) (by decide) rfl rfl rfl (Nat.le_of_ble_eq_true rfl) (lo := [some (.ref a0), some (.ref a1)]) rfl ?_
  rw [f_X3_takeLatest] at hf
  refine pw_aload_n dX3_takeLatest_0 rfl ?_
  refine q_gI hf rfl (by decide) w9_X3_takeLatest_X3 (by decide +kernel) dX3_takeLatest_1 (fun x1 hf => ?_)
  refine q_if_eq (tgt := 19) hf dX3_takeLatest_4 (by decide) (fun hf _ => ?_) (fun hf _ => ?_)
  · exact pw_vret rfl dX3_takeLatest_19 ⟨rfl, Option.some.inj hf⟩
  · refine pw_aload_n dX3_takeLatest_7 rfl ?_
    refine q_gR hf rfl (by decide) w9_X3_takeLatest_X3 (by decide +kernel) dX3_takeLatest_8 (fun x2 hf => ?_)
    refine pw_aload_n dX3_takeLatest_11 rfl ?_
    refine q_gI hf rfl (by decide) w9_X3_takeLatest_X3 (by decide +kernel) dX3_takeLatest_12 (fun x3 hf => ?_)
    refine q_aaldN hf (by decide) rfl dX3_takeLatest_15 (fun x12 hf ex12 => ?_) (fun hf ex12 => ?_)
    · refine pw_ifnonnull (tgt := 20) dX3_takeLatest_16 (by decide) ?_
      refine pw_aload_n dX3_takeLatest_20 rfl ?_
      refine pw_aload_n dX3_takeLatest_21 rfl ?_
      refine q_gR hf rfl (by decide) w9_X3_takeLatest_X3 (by decide +kernel) dX3_takeLatest_22 (fun x4 hf => ?_)
      refine pw_aload_n dX3_takeLatest_25 rfl ?_
      refine q_gI hf rfl (by decide) w9_X3_takeLatest_X3 (by decide +kernel) dX3_takeLatest_26 (fun x5 hf => ?_)
      refine q_aald hf (by decide) rfl dX3_takeLatest_29 (fun x6 hf => ?_)
      refine q_callV_v (kc2 := 0) (ks2 := 0) (as := [.ref x6]) (rest := []) hf (fun x9 e9 => t_X2_copy e9) gX3_takeLatest_X2_copy rfl hd9_X2_copy rfl rfl ⟨(by decide), by decide⟩ ⟨rfl, rfl⟩ (Nat.le_of_ble_eq_true rfl) dX3_takeLatest_30 rfl (fun h7 hf => ?_)
      refine pw_aload_n dX3_takeLatest_33 rfl ?_
      refine pw_aload_n dX3_takeLatest_34 rfl ?_
      refine q_gI hf rfl (by decide) w9_X3_takeLatest_X3 (by decide +kernel) dX3_takeLatest_35 (fun x8 hf => ?_)
      refine pw_bipush (v := (8)) dX3_takeLatest_38 (by decide) ?_
      refine pw_iadd dX3_takeLatest_40 ?_
      refine pw_iconst (v := (1)) dX3_takeLatest_41 (by decide) ?_
      refine pw_isub dX3_takeLatest_42 ?_
      refine pw_bipush (v := (8)) dX3_takeLatest_43 (by decide) ?_
      refine pw_irem dX3_takeLatest_45 (by decide) ?_
      refine q_pV (ty := .int) hf tyX3 tyX3_ok nmX3 rfl (by decide) w9_X3_takeLatest_X3 (by decide +kernel) rfl (by decide +kernel) rfl rfl dX3_takeLatest_46 (fun h9 hf => ?_)
      refine pw_aload_n dX3_takeLatest_49 rfl ?_
      refine pw_dup dX3_takeLatest_50 rfl ?_
      refine q_gI hf rfl (by decide) w9_X3_takeLatest_X3 (by decide +kernel) dX3_takeLatest_51 (fun x10 hf => ?_)
      refine pw_iconst (v := (1)) dX3_takeLatest_54 (by decide) ?_
      refine pw_isub dX3_takeLatest_55 ?_
      refine q_pV (ty := .int) hf tyX3 tyX3_ok nmX3 rfl (by decide) w9_X3_takeLatest_X3 (by decide +kernel) rfl (by decide +kernel) rfl rfl dX3_takeLatest_56 (fun h11 hf => ?_)
      exact pw_vret rfl dX3_takeLatest_59 ⟨rfl, Option.some.inj hf⟩
    · refine pw_ifnonnullN dX3_takeLatest_16 ?_
      exact pw_vret rfl dX3_takeLatest_19 ⟨rfl, Option.some.inj hf⟩
