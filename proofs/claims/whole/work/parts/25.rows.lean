/-! X6_init -/
abbrev m_X6_init : MD := (cX6_init, RX6, "<init>", wsX6_init, 1, none)
theorem w9_X6_init_X0 : ∀ w ∈ u_ws RX0 TX0 1, w ∈ wsX6_init := by decide +kernel
theorem w9_X6_init_X1 : ∀ w ∈ u_ws RX1 TX1 8, w ∈ wsX6_init := by decide +kernel
theorem w9_X6_init_X2 : ∀ w ∈ u_ws RX2 TX2 4, w ∈ wsX6_init := by decide +kernel
theorem w9_X6_init_X3 : ∀ w ∈ u_ws RX3 TX3 3, w ∈ wsX6_init := by decide +kernel
theorem w9_X6_init_X4 : ∀ w ∈ u_ws RX4 TX4 3, w ∈ wsX6_init := by decide +kernel
theorem w9_X6_init_X5 : ∀ w ∈ u_ws RX5 TX5 9, w ∈ wsX6_init := by decide +kernel
theorem w9_X6_init_X6 : ∀ w ∈ u_ws RX6 TX6 14, w ∈ wsX6_init := by decide +kernel
theorem hd9_X6_init : yX6_init.cls = RX6 ∧ yX6_init.cls ≠ "java/lang/invoke/MethodHandle" ∧ yX6_init.cls ≠ "java/lang/invoke/VarHandle" ∧ (parseMethodDescriptor yX6_init.desc).map (fun d => d.parameters.length) = some 0 := by decide +kernel
def f_X6_init (h : Hp) (a0 : Nat) : Option Hp := (nA h 1 340 (340 : Int32)).bind fun x1 => (pV x1.2 a0 6 0 (.ref x1.1)).bind fun h2 => (pV h2 a0 6 1 (.int (0 : Int32))).bind fun h3 => (nO h3 5 [.null, .null, .int 0, .int 0, .int 0, .int 0, .int 0, .int 0, .int 0]).bind fun x4 => (f_X5_init x4.2 x4.1).bind fun h5 => (pV h5 a0 6 2 (.ref x4.1)).bind fun h6 => (pV h6 a0 6 3 (.int (0 : Int32))).bind fun h7 => (nO h7 2 [.int 0, .int 0, .int 0, .null]).bind fun x8 => (f_X2_init x8.2 x8.1).bind fun h9 => (pV h9 a0 6 4 (.ref x8.1)).bind fun h10 => (nO h10 2 [.int 0, .int 0, .int 0, .null]).bind fun x11 => (f_X2_init x11.2 x11.1).bind fun h12 => (pV h12 a0 6 5 (.ref x11.1)).bind fun h13 => (nO h13 3 [.null, .int 0, .int 0]).bind fun x14 => (f_X3_init x14.2 x14.1).bind fun h15 => (pV h15 a0 6 6 (.ref x14.1)).bind fun h16 => (nA h16 4 2 (2 : Int32)).bind fun x17 => (pV x17.2 a0 6 7 (.ref x17.1)).bind fun h18 => (nO h18 0 [.int 0]).bind fun x19 => (f_X0_init x19.2 x19.1).bind fun h20 => (pV h20 a0 6 8 (.ref x19.1)).bind fun h21 => (nO h21 1 [.null, .null, .null, .null, .null, .int 0, .int 0, .int 0]).bind fun x22 => (f_X1_init x22.2 x22.1 (2656 : Int32)).bind fun h23 => (pV h23 a0 6 9 (.ref x22.1)).bind fun h24 => (nO h24 2 [.int 0, .int 0, .int 0, .null]).bind fun x25 => (f_X2_init x25.2 x25.1).bind fun h26 => (pV h26 a0 6 10 (.ref x25.1)).bind fun h27 => (nO h27 1 [.null, .null, .null, .null, .null, .int 0, .int 0, .int 0]).bind fun x28 => (f_X1_init x28.2 x28.1 (0 : Int32)).bind fun h29 => (pV h29 a0 6 11 (.ref x28.1)).bind fun h30 => (nO h30 4 [.null, .null, .int 0]).bind fun x31 => (f_X4_init x31.2 x31.1).bind fun h32 => (pV h32 a0 6 12 (.ref x31.1)).bind fun h33 => (nA h33 0 19 (19 : Int32)).bind fun x34 => (pV x34.2 a0 6 13 (.ref x34.1)).bind fun h35 => some h35
theorem hd8_X6_init : yX6_init.cls ≠ "java/lang/invoke/MethodHandle" ∧ yX6_init.cls ≠ "java/lang/invoke/VarHandle" ∧ (parseMethodDescriptor yX6_init.desc).map (fun d => d.parameters.length) = some 0 := hd9_X6_init.2
set_option maxHeartbeats 4000000 in
set_option maxRecDepth 100000 in
theorem t_X6_init {g : GT} {l : Launch} {h : Hp} {a0 : Nat} {r : Hp} (hf : f_X6_init h a0 = some r) : PM g l 3 63 7046 yX6_init wsX6_init [.ref a0] h (fun r9 h9 => r9 = none ∧ h9 = r) := by
  refine pm_of (M := m_X6_init) (by decide) rfl rfl rfl (Nat.le_of_ble_eq_true rfl) (lo := [some (.ref a0)]) rfl ?_
  rw [f_X6_init] at hf
  refine pw_aload_n dX6_init_0 rfl ?_
  refine pw_obj (by decide +kernel) (by decide +kernel) (by decide +kernel) (by decide) (Nat.le_of_ble_eq_true rfl) dX6_init_1 ?_
  refine pw_aload_n dX6_init_4 rfl ?_
  refine pw_sipush (v := (340)) dX6_init_5 (by decide) ?_
  refine q_newa (kc2 := 62) (ks2 := 6706) hf (by decide) rfl (by decide +kernel) (by decide) ⟨rfl, rfl⟩ dX6_init_8 (fun x1 hf => ?_)
  refine q_pVF (ty := .array .byte) hf tyX6 tyX6_ok nmX6 rfl (by decide) w9_X6_init_X6 (by decide +kernel) rfl rfl rfl (by decide +kernel) rfl rfl dX6_init_10 (fun h2 hf => ?_)
  refine pw_aload_n dX6_init_13 rfl ?_
  refine pw_iconst (v := (0)) dX6_init_14 (by decide) ?_
  refine q_pV (ty := .int) hf tyX6 tyX6_ok nmX6 rfl (by decide) w9_X6_init_X6 (by decide +kernel) rfl (by decide +kernel) rfl rfl dX6_init_15 (fun h3 hf => ?_)
  refine pw_aload_n dX6_init_18 rfl ?_
  refine q_new (kc2 := 61) (ks2 := 6697) hf tyX5 tyX5_ok rfl w9_X6_init_X5 (by decide +kernel) (by decide +kernel) (by decide +kernel) (fun j hj => by rcases (show j = 0 ∨ j = 1 ∨ j = 2 ∨ j = 3 ∨ j = 4 ∨ j = 5 ∨ j = 6 ∨ j = 7 ∨ j = 8 by omega) with rfl | rfl | rfl | rfl | rfl | rfl | rfl | rfl | rfl <;> rfl) ⟨rfl, rfl⟩ dX6_init_19 (fun x4 hf => ?_)
  refine pw_dup dX6_init_22 rfl ?_
  refine q_callIN_v (host := "TwinRows") (kc2 := 58) (ks2 := 6337) (as := []) (rest := [.ref x4.1, .ref a0]) hf (fun x9 e9 => t_X5_init e9) gX6_init_X5_init_n19 (by decide +kernel) (by decide +kernel) (by decide +kernel) rfl rfl hd8_X5_init rfl ⟨by decide, by decide⟩ ⟨rfl, rfl⟩ (Nat.le_of_ble_eq_true rfl) dX6_init_23 rfl (fun h5 hf => ?_)
  refine q_pVF (ty := .object "TwinRows$Reader") hf tyX6 tyX6_ok nmX6 rfl (by decide) w9_X6_init_X6 (by decide +kernel) rfl rfl rfl (by decide +kernel) rfl rfl dX6_init_26 (fun h6 hf => ?_)
  refine pw_aload_n dX6_init_29 rfl ?_
  refine pw_iconst (v := (0)) dX6_init_30 (by decide) ?_
  refine q_pV (ty := .int) hf tyX6 tyX6_ok nmX6 rfl (by decide) w9_X6_init_X6 (by decide +kernel) rfl (by decide +kernel) rfl rfl dX6_init_31 (fun h7 hf => ?_)
  refine pw_aload_n dX6_init_34 rfl ?_
  refine q_new (kc2 := 57) (ks2 := 6333) hf tyX2 tyX2_ok rfl w9_X6_init_X2 (by decide +kernel) (by decide +kernel) (by decide +kernel) (fun j hj => by rcases (show j = 0 ∨ j = 1 ∨ j = 2 ∨ j = 3 by omega) with rfl | rfl | rfl | rfl <;> rfl) ⟨rfl, rfl⟩ dX6_init_35 (fun x8 hf => ?_)
  refine pw_dup dX6_init_38 rfl ?_
  refine q_callIN_v (host := "TwinRows") (kc2 := 56) (ks2 := 6317) (as := []) (rest := [.ref x8.1, .ref a0]) hf (fun x9 e9 => t_X2_init e9) gX6_init_X2_init_n29 (by decide +kernel) (by decide +kernel) (by decide +kernel) rfl rfl hd8_X2_init rfl ⟨by decide, by decide⟩ ⟨rfl, rfl⟩ (Nat.le_of_ble_eq_true rfl) dX6_init_39 rfl (fun h9 hf => ?_)
  refine q_pVF (ty := .object "TwinRows$Frame") hf tyX6 tyX6_ok nmX6 rfl (by decide) w9_X6_init_X6 (by decide +kernel) rfl rfl rfl (by decide +kernel) rfl rfl dX6_init_42 (fun h10 hf => ?_)
  refine pw_aload_n dX6_init_45 rfl ?_
  refine q_new (kc2 := 55) (ks2 := 6313) hf tyX2 tyX2_ok rfl w9_X6_init_X2 (by decide +kernel) (by decide +kernel) (by decide +kernel) (fun j hj => by rcases (show j = 0 ∨ j = 1 ∨ j = 2 ∨ j = 3 by omega) with rfl | rfl | rfl | rfl <;> rfl) ⟨rfl, rfl⟩ dX6_init_46 (fun x11 hf => ?_)
  refine pw_dup dX6_init_49 rfl ?_
  refine q_callIN_v (host := "TwinRows") (kc2 := 54) (ks2 := 6297) (as := []) (rest := [.ref x11.1, .ref a0]) hf (fun x9 e9 => t_X2_init e9) gX6_init_X2_init_n29 (by decide +kernel) (by decide +kernel) (by decide +kernel) rfl rfl hd8_X2_init rfl ⟨by decide, by decide⟩ ⟨rfl, rfl⟩ (Nat.le_of_ble_eq_true rfl) dX6_init_50 rfl (fun h12 hf => ?_)
  refine q_pVF (ty := .object "TwinRows$Frame") hf tyX6 tyX6_ok nmX6 rfl (by decide) w9_X6_init_X6 (by decide +kernel) rfl rfl rfl (by decide +kernel) rfl rfl dX6_init_53 (fun h13 hf => ?_)
  refine pw_aload_n dX6_init_56 rfl ?_
  refine q_new (kc2 := 53) (ks2 := 6294) hf tyX3 tyX3_ok rfl w9_X6_init_X3 (by decide +kernel) (by decide +kernel) (by decide +kernel) (fun j hj => by rcases (show j = 0 ∨ j = 1 ∨ j = 2 by omega) with rfl | rfl | rfl <;> rfl) ⟨rfl, rfl⟩ dX6_init_57 (fun x14 hf => ?_)
  refine pw_dup dX6_init_60 rfl ?_
  refine q_callIN_v (host := "TwinRows") (kc2 := 52) (ks2 := 6286) (as := []) (rest := [.ref x14.1, .ref a0]) hf (fun x9 e9 => t_X3_init e9) gX6_init_X3_init_n39 (by decide +kernel) (by decide +kernel) (by decide +kernel) rfl rfl hd8_X3_init rfl ⟨by decide, by decide⟩ ⟨rfl, rfl⟩ (Nat.le_of_ble_eq_true rfl) dX6_init_61 rfl (fun h15 hf => ?_)
  refine q_pVF (ty := .object "TwinRows$History") hf tyX6 tyX6_ok nmX6 rfl (by decide) w9_X6_init_X6 (by decide +kernel) rfl rfl rfl (by decide +kernel) rfl rfl dX6_init_64 (fun h16 hf => ?_)
  refine pw_aload_n dX6_init_67 rfl ?_
  refine pw_iconst (v := (2)) dX6_init_68 (by decide) ?_
  refine q_anew (kc2 := 51) (ks2 := 6284) hf (by decide +kernel) (by decide) ⟨rfl, rfl⟩ dX6_init_69 (fun x17 hf => ?_)
  refine q_pVF (ty := .array (.object "TwinRows$Frame")) hf tyX6 tyX6_ok nmX6 rfl (by decide) w9_X6_init_X6 (by decide +kernel) rfl rfl rfl (by decide +kernel) rfl rfl dX6_init_72 (fun h18 hf => ?_)
  refine pw_aload_n dX6_init_75 rfl ?_
  refine q_new (kc2 := 50) (ks2 := 6283) hf tyX0 tyX0_ok rfl w9_X6_init_X0 (by decide +kernel) (by decide +kernel) (by decide +kernel) (fun j hj => by rcases (show j = 0 by omega) with rfl <;> rfl) ⟨rfl, rfl⟩ dX6_init_76 (fun x19 hf => ?_)
  refine pw_dup dX6_init_79 rfl ?_
  refine q_callIN_v (host := "TwinRows") (kc2 := 50) (ks2 := 6283) (as := []) (rest := [.ref x19.1, .ref a0]) hf (fun x9 e9 => t_X0_init e9) gX6_init_X0_init_n50 (by decide +kernel) (by decide +kernel) (by decide +kernel) rfl rfl hd8_X0_init rfl ⟨by decide, by decide⟩ ⟨rfl, rfl⟩ (Nat.le_of_ble_eq_true rfl) dX6_init_80 rfl (fun h20 hf => ?_)
  refine q_pVF (ty := .object "TwinRows$Draws") hf tyX6 tyX6_ok nmX6 rfl (by decide) w9_X6_init_X6 (by decide +kernel) rfl rfl rfl (by decide +kernel) rfl rfl dX6_init_83 (fun h21 hf => ?_)
  refine pw_aload_n dX6_init_86 rfl ?_
  refine q_new (kc2 := 49) (ks2 := 6275) hf tyX1 tyX1_ok rfl w9_X6_init_X1 (by decide +kernel) (by decide +kernel) (by decide +kernel) (fun j hj => by rcases (show j = 0 ∨ j = 1 ∨ j = 2 ∨ j = 3 ∨ j = 4 ∨ j = 5 ∨ j = 6 ∨ j = 7 by omega) with rfl | rfl | rfl | rfl | rfl | rfl | rfl | rfl <;> rfl) ⟨rfl, rfl⟩ dX6_init_87 (fun x22 hf => ?_)
  refine pw_dup dX6_init_90 rfl ?_
  refine pw_sipush (v := (2656)) dX6_init_91 (by decide) ?_
  refine q_callI_v (kc2 := 28) (ks2 := 3254) (as := [.int (2656 : Int32)]) (rest := [.ref x22.1, .ref a0]) hf (fun x9 e9 => t_X1_init e9) gX6_init_X1_init (by decide +kernel) (by decide +kernel) (by decide +kernel) rfl rfl hd8_X1_init rfl ⟨by decide, by decide⟩ ⟨rfl, rfl⟩ (Nat.le_of_ble_eq_true rfl) dX6_init_94 rfl (fun h23 hf => ?_)
  refine q_pVF (ty := .object "TwinRows$Fillings") hf tyX6 tyX6_ok nmX6 rfl (by decide) w9_X6_init_X6 (by decide +kernel) rfl rfl rfl (by decide +kernel) rfl rfl dX6_init_97 (fun h24 hf => ?_)
  refine pw_aload_n dX6_init_100 rfl ?_
  refine q_new (kc2 := 27) (ks2 := 3250) hf tyX2 tyX2_ok rfl w9_X6_init_X2 (by decide +kernel) (by decide +kernel) (by decide +kernel) (fun j hj => by rcases (show j = 0 ∨ j = 1 ∨ j = 2 ∨ j = 3 by omega) with rfl | rfl | rfl | rfl <;> rfl) ⟨rfl, rfl⟩ dX6_init_101 (fun x25 hf => ?_)
  refine pw_dup dX6_init_104 rfl ?_
  refine q_callIN_v (host := "TwinRows") (kc2 := 26) (ks2 := 3234) (as := []) (rest := [.ref x25.1, .ref a0]) hf (fun x9 e9 => t_X2_init e9) gX6_init_X2_init_n29 (by decide +kernel) (by decide +kernel) (by decide +kernel) rfl rfl hd8_X2_init rfl ⟨by decide, by decide⟩ ⟨rfl, rfl⟩ (Nat.le_of_ble_eq_true rfl) dX6_init_105 rfl (fun h26 hf => ?_)
  refine q_pVF (ty := .object "TwinRows$Frame") hf tyX6 tyX6_ok nmX6 rfl (by decide) w9_X6_init_X6 (by decide +kernel) rfl rfl rfl (by decide +kernel) rfl rfl dX6_init_108 (fun h27 hf => ?_)
  refine pw_aload_n dX6_init_111 rfl ?_
  refine q_new (kc2 := 25) (ks2 := 3226) hf tyX1 tyX1_ok rfl w9_X6_init_X1 (by decide +kernel) (by decide +kernel) (by decide +kernel) (fun j hj => by rcases (show j = 0 ∨ j = 1 ∨ j = 2 ∨ j = 3 ∨ j = 4 ∨ j = 5 ∨ j = 6 ∨ j = 7 by omega) with rfl | rfl | rfl | rfl | rfl | rfl | rfl | rfl <;> rfl) ⟨rfl, rfl⟩ dX6_init_112 (fun x28 hf => ?_)
  refine pw_dup dX6_init_115 rfl ?_
  refine pw_iconst (v := (0)) dX6_init_116 (by decide) ?_
  refine q_callI_v (kc2 := 4) (ks2 := 205) (as := [.int (0 : Int32)]) (rest := [.ref x28.1, .ref a0]) hf (fun x9 e9 => t_X1_init e9) gX6_init_X1_init (by decide +kernel) (by decide +kernel) (by decide +kernel) rfl rfl hd8_X1_init rfl ⟨by decide, by decide⟩ ⟨rfl, rfl⟩ (Nat.le_of_ble_eq_true rfl) dX6_init_117 rfl (fun h29 hf => ?_)
  refine q_pVF (ty := .object "TwinRows$Fillings") hf tyX6 tyX6_ok nmX6 rfl (by decide) w9_X6_init_X6 (by decide +kernel) rfl rfl rfl (by decide +kernel) rfl rfl dX6_init_120 (fun h30 hf => ?_)
  refine pw_aload_n dX6_init_123 rfl ?_
  refine q_new (kc2 := 3) (ks2 := 202) hf tyX4 tyX4_ok rfl w9_X6_init_X4 (by decide +kernel) (by decide +kernel) (by decide +kernel) (fun j hj => by rcases (show j = 0 ∨ j = 1 ∨ j = 2 by omega) with rfl | rfl | rfl <;> rfl) ⟨rfl, rfl⟩ dX6_init_124 (fun x31 hf => ?_)
  refine pw_dup dX6_init_127 rfl ?_
  refine q_callIN_v (host := "TwinRows") (kc2 := 1) (ks2 := 19) (as := []) (rest := [.ref x31.1, .ref a0]) hf (fun x9 e9 => t_X4_init e9) gX6_init_X4_init_n72 (by decide +kernel) (by decide +kernel) (by decide +kernel) rfl rfl hd8_X4_init rfl ⟨by decide, by decide⟩ ⟨rfl, rfl⟩ (Nat.le_of_ble_eq_true rfl) dX6_init_128 rfl (fun h32 hf => ?_)
  refine q_pVF (ty := .object "TwinRows$Look") hf tyX6 tyX6_ok nmX6 rfl (by decide) w9_X6_init_X6 (by decide +kernel) rfl rfl rfl (by decide +kernel) rfl rfl dX6_init_131 (fun h33 hf => ?_)
  refine pw_aload_n dX6_init_134 rfl ?_
  refine pw_bipush (v := (19)) dX6_init_135 (by decide) ?_
  refine q_newa (kc2 := 0) (ks2 := 0) hf (by decide) rfl (by decide +kernel) (by decide) ⟨rfl, rfl⟩ dX6_init_137 (fun x34 hf => ?_)
  refine q_pVF (ty := .array .int) hf tyX6 tyX6_ok nmX6 rfl (by decide) w9_X6_init_X6 (by decide +kernel) rfl rfl rfl (by decide +kernel) rfl rfl dX6_init_139 (fun h35 hf => ?_)
  exact pw_vret rfl dX6_init_142 ⟨rfl, Option.some.inj hf⟩
/-! X6_feedNumber -/
abbrev m_X6_feedNumber : MD := (cX6_feedNumber, RX6, "feedNumber", wsX6_feedNumber, 3, none)
theorem w9_X6_feedNumber_X6 : ∀ w ∈ u_ws RX6 TX6 14, w ∈ wsX6_feedNumber := by decide +kernel
theorem hd9_X6_feedNumber : yX6_feedNumber.cls = RX6 ∧ yX6_feedNumber.cls ≠ "java/lang/invoke/MethodHandle" ∧ yX6_feedNumber.cls ≠ "java/lang/invoke/VarHandle" ∧ (parseMethodDescriptor yX6_feedNumber.desc).map (fun d => d.parameters.length) = some 1 := by decide +kernel
def f_X6_feedNumber_3 : Nat → Nat → Int32 → Int32 → Hp → Option Hp
  | 0, _, _, _, _ => none
  | n + 1, v0, v1, v2, h => if v2 < 0 then (some h) else ((gI h v0 6 1).bind fun x1 => if (340 : Int32) ≤ x1 then (some h) else ((gR h v0 6 0).bind fun x2 => (gI h v0 6 1).bind fun x3 => (sI h 1 x2 x3 (vp_nar .byte (ushr v1 v2).toInt8.toInt32)).bind fun h4 => (gI h4 v0 6 1).bind fun x5 => (pV h4 v0 6 1 (.int (x5 + (1 : Int32)))).bind fun h6 => f_X6_feedNumber_3 n v0 v1 (v2 + (-8)) h6))
set_option maxHeartbeats 4000000 in
set_option maxRecDepth 100000 in
theorem w_X6_feedNumber_3 {g : GT} {l : Launch} {r : Hp} : ∀ (n : Nat) (v0 : Nat) (v1 : Int32) (v2 : Int32) (h : Hp), f_X6_feedNumber_3 n v0 v1 v2 h = some r → PW g l m_X6_feedNumber 1 0 0 3 [some (.ref v0), some (.int v1), some (.int v2)] [] h (fun r9 h9 => r9 = none ∧ h9 = r) := by
  intro n
  induction n with
  | zero => intro v0 v1 v2 h hf; cases hf
  | succ n ih =>
    intro v0 v1 v2 h hf
    rw [f_X6_feedNumber_3] at hf
    refine pw_iload_n dX6_feedNumber_3 rfl ?_
    refine q_if_lt (tgt := 46) hf dX6_feedNumber_4 (by decide) (fun hf _ => ?_) (fun hf _ => ?_)
    · exact pw_vret rfl dX6_feedNumber_46 ⟨rfl, Option.some.inj hf⟩
    · refine pw_aload_n dX6_feedNumber_7 rfl ?_
      refine q_gI hf rfl (by decide) w9_X6_feedNumber_X6 (by decide +kernel) dX6_feedNumber_8 (fun x1 hf => ?_)
      refine pw_sipush (v := (340)) dX6_feedNumber_11 (by decide) ?_
      refine q_icmp_ge (tgt := 46) hf dX6_feedNumber_14 (by decide) (fun hf _ => ?_) (fun hf _ => ?_)
      · exact pw_vret rfl dX6_feedNumber_46 ⟨rfl, Option.some.inj hf⟩
      · refine pw_aload_n dX6_feedNumber_17 rfl ?_
        refine q_gR hf rfl (by decide) w9_X6_feedNumber_X6 (by decide +kernel) dX6_feedNumber_18 (fun x2 hf => ?_)
        refine pw_aload_n dX6_feedNumber_21 rfl ?_
        refine q_gI hf rfl (by decide) w9_X6_feedNumber_X6 (by decide +kernel) dX6_feedNumber_22 (fun x3 hf => ?_)
        refine pw_iload_n dX6_feedNumber_25 rfl ?_
        refine pw_iload_n dX6_feedNumber_26 rfl ?_
        refine pw_iushr dX6_feedNumber_27 ?_
        refine pw_i2b dX6_feedNumber_28 ?_
        refine q_bast hf dX6_feedNumber_29 (fun h4 hf => ?_)
        refine pw_aload_n dX6_feedNumber_30 rfl ?_
        refine pw_dup dX6_feedNumber_31 rfl ?_
        refine q_gI hf rfl (by decide) w9_X6_feedNumber_X6 (by decide +kernel) dX6_feedNumber_32 (fun x5 hf => ?_)
        refine pw_iconst (v := (1)) dX6_feedNumber_35 (by decide) ?_
        refine pw_iadd dX6_feedNumber_36 ?_
        refine q_pV (ty := .int) hf tyX6 tyX6_ok nmX6 rfl (by decide) w9_X6_feedNumber_X6 (by decide +kernel) rfl (by decide +kernel) rfl rfl dX6_feedNumber_37 (fun h6 hf => ?_)
        refine pw_iinc (v := v2 + (-8)) dX6_feedNumber_40 rfl rfl (by decide) rfl ?_
        dsimp only [lset, lset2, clr]
        refine pw_goto (tgt := 3) dX6_feedNumber_43 (by decide) ?_
        exact pw_lo (lle_s rfl (lle_s rfl (lle_s rfl lle_0))) (ih _ _ _ _ hf)
def f_X6_feedNumber (h : Hp) (a0 : Nat) (a1 : Int32) : Option Hp := f_X6_feedNumber_3 4096 a0 a1 (24 : Int32) h
set_option maxHeartbeats 4000000 in
set_option maxRecDepth 100000 in
theorem t_X6_feedNumber {g : GT} {l : Launch} {h : Hp} {a0 : Nat} {a1 : Int32} {r : Hp} (hf : f_X6_feedNumber h a0 a1 = some r) : PM g l 1 0 0 yX6_feedNumber wsX6_feedNumber [.ref a0, .int a1] h (fun r9 h9 => r9 = none ∧ h9 = r) := by
  refine pm_of (M := m_X6_feedNumber) (by decide) rfl rfl rfl (Nat.le_of_ble_eq_true rfl) (lo := [some (.ref a0), some (.int a1), none]) rfl ?_
  rw [f_X6_feedNumber] at hf
  refine pw_bipush (v := (24)) dX6_feedNumber_0 (by decide) ?_
  refine pw_istore_n dX6_feedNumber_2 (by decide) rfl ?_
  dsimp only [lset, lset2, clr]
  exact pw_lo (lle_s rfl (lle_s rfl (lle_s rfl lle_0))) (w_X6_feedNumber_3 4096 _ _ _ _ hf)
/-! X6_feed -/
abbrev m_X6_feed : MD := (cX6_feed, RX6, "feed", wsX6_feed, 6, (some .int))
theorem w9_X6_feed_X6 : ∀ w ∈ u_ws RX6 TX6 14, w ∈ wsX6_feed := by decide +kernel
theorem hd9_X6_feed : yX6_feed.cls = RX6 ∧ yX6_feed.cls ≠ "java/lang/invoke/MethodHandle" ∧ yX6_feed.cls ≠ "java/lang/invoke/VarHandle" ∧ (parseMethodDescriptor yX6_feed.desc).map (fun d => d.parameters.length) = some 5 := by decide +kernel
def f_X6_feed (h : Hp) (a0 : Nat) (a1 : Int32) (a2 : Int32) (a3 : Int32) (a4 : Int32) (a5 : Int32) : Option (Int32 × Hp) := (gI h a0 6 1).bind fun x1 => if (x1 + (20 : Int32)) ≤ (340 : Int32) then (if oK h a0 6 = true then (f_X6_feedNumber h a0 a1).bind fun h2 => if oK h2 a0 6 = true then (f_X6_feedNumber h2 a0 a2).bind fun h3 => if oK h3 a0 6 = true then (f_X6_feedNumber h3 a0 a3).bind fun h4 => if oK h4 a0 6 = true then (f_X6_feedNumber h4 a0 a4).bind fun h5 => if oK h5 a0 6 = true then (f_X6_feedNumber h5 a0 a5).bind fun h6 => (gI h6 a0 6 1).bind fun x7 => some ((x7, h6)) else none else none else none else none else none) else (some (((-1 : Int32), h)))
set_option maxHeartbeats 4000000 in
set_option maxRecDepth 100000 in
theorem t_X6_feed {g : GT} {l : Launch} {h : Hp} {a0 : Nat} {a1 : Int32} {a2 : Int32} {a3 : Int32} {a4 : Int32} {a5 : Int32} {r : (Int32 × Hp)} (hf : f_X6_feed h a0 a1 a2 a3 a4 a5 = some r) : PM g l 2 0 0 yX6_feed wsX6_feed [.ref a0, .int a1, .int a2, .int a3, .int a4, .int a5] h (fun r9 h9 => r9 = some (.int r.1) ∧ h9 = r.2) := by
  refine pm_of (M := m_X6_feed) (by decide) rfl rfl rfl (Nat.le_of_ble_eq_true rfl) (lo := [some (.ref a0), some (.int a1), some (.int a2), some (.int a3), some (.int a4), some (.int a5)]) rfl ?_
  rw [f_X6_feed] at hf
  refine pw_aload_n dX6_feed_0 rfl ?_
  refine q_gI hf rfl (by decide) w9_X6_feed_X6 (by decide +kernel) dX6_feed_1 (fun x1 hf => ?_)
  refine pw_bipush (v := (20)) dX6_feed_4 (by decide) ?_
  refine pw_iadd dX6_feed_6 ?_
  refine pw_sipush (v := (340)) dX6_feed_7 (by decide) ?_
  refine q_icmp_le (tgt := 15) hf dX6_feed_10 (by decide) (fun hf _ => ?_) (fun hf _ => ?_)
  · refine pw_aload_n dX6_feed_15 rfl ?_
    refine pw_iload_n dX6_feed_16 rfl ?_
    refine q_callV_v (kc2 := 0) (ks2 := 0) (as := [.int a1]) (rest := []) hf (fun x9 e9 => t_X6_feedNumber e9) gX6_feed_X6_feedNumber rfl hd9_X6_feedNumber rfl rfl ⟨(by decide), by decide⟩ ⟨rfl, rfl⟩ (Nat.le_of_ble_eq_true rfl) dX6_feed_17 rfl (fun h2 hf => ?_)
    refine pw_aload_n dX6_feed_20 rfl ?_
    refine pw_iload_n dX6_feed_21 rfl ?_
    refine q_callV_v (kc2 := 0) (ks2 := 0) (as := [.int a2]) (rest := []) hf (fun x9 e9 => t_X6_feedNumber e9) gX6_feed_X6_feedNumber rfl hd9_X6_feedNumber rfl rfl ⟨(by decide), by decide⟩ ⟨rfl, rfl⟩ (Nat.le_of_ble_eq_true rfl) dX6_feed_22 rfl (fun h3 hf => ?_)
    refine pw_aload_n dX6_feed_25 rfl ?_
    refine pw_iload_n dX6_feed_26 rfl ?_
    refine q_callV_v (kc2 := 0) (ks2 := 0) (as := [.int a3]) (rest := []) hf (fun x9 e9 => t_X6_feedNumber e9) gX6_feed_X6_feedNumber rfl hd9_X6_feedNumber rfl rfl ⟨(by decide), by decide⟩ ⟨rfl, rfl⟩ (Nat.le_of_ble_eq_true rfl) dX6_feed_27 rfl (fun h4 hf => ?_)
    refine pw_aload_n dX6_feed_30 rfl ?_
    refine pw_iload dX6_feed_31 rfl ?_
    refine q_callV_v (kc2 := 0) (ks2 := 0) (as := [.int a4]) (rest := []) hf (fun x9 e9 => t_X6_feedNumber e9) gX6_feed_X6_feedNumber rfl hd9_X6_feedNumber rfl rfl ⟨(by decide), by decide⟩ ⟨rfl, rfl⟩ (Nat.le_of_ble_eq_true rfl) dX6_feed_33 rfl (fun h5 hf => ?_)
    refine pw_aload_n dX6_feed_36 rfl ?_
    refine pw_iload dX6_feed_37 rfl ?_
    refine q_callV_v (kc2 := 0) (ks2 := 0) (as := [.int a5]) (rest := []) hf (fun x9 e9 => t_X6_feedNumber e9) gX6_feed_X6_feedNumber rfl hd9_X6_feedNumber rfl rfl ⟨(by decide), by decide⟩ ⟨rfl, rfl⟩ (Nat.le_of_ble_eq_true rfl) dX6_feed_39 rfl (fun h6 hf => ?_)
    refine pw_aload_n dX6_feed_42 rfl ?_
    refine q_gI hf rfl (by decide) w9_X6_feed_X6 (by decide +kernel) dX6_feed_43 (fun x7 hf => ?_)
    exact pw_iret (x := x7) rfl rfl dX6_feed_46 (ret_iw hf)
  · refine pw_iconst (v := (-1)) dX6_feed_13 (by decide) ?_
    exact pw_iret (x := (-1 : Int32)) rfl rfl dX6_feed_14 (ret_iw hf)
/-! X6_end -/
abbrev m_X6_end : MD := (cX6_end, RX6, "end", wsX6_end, 2, (some .boolean))
theorem w9_X6_end_X6 : ∀ w ∈ u_ws RX6 TX6 14, w ∈ wsX6_end := by decide +kernel
theorem hd9_X6_end : yX6_end.cls = RX6 ∧ yX6_end.cls ≠ "java/lang/invoke/MethodHandle" ∧ yX6_end.cls ≠ "java/lang/invoke/VarHandle" ∧ (parseMethodDescriptor yX6_end.desc).map (fun d => d.parameters.length) = some 1 := by decide +kernel
def f_X6_end (h : Hp) (a0 : Nat) (a1 : Int32) : Option (Int32 × Hp) := if a1 < 0 then (some (((0 : Int32), h))) else ((gI h a0 6 1).bind fun x1 => if a1 ≤ x1 then ((pV h a0 6 1 (.int a1)).bind fun h2 => some (((1 : Int32), h2))) else (some (((0 : Int32), h))))
set_option maxHeartbeats 4000000 in
set_option maxRecDepth 100000 in
theorem t_X6_end {g : GT} {l : Launch} {h : Hp} {a0 : Nat} {a1 : Int32} {r : (Int32 × Hp)} (hf : f_X6_end h a0 a1 = some r) : PM g l 1 0 0 yX6_end wsX6_end [.ref a0, .int a1] h (fun r9 h9 => r9 = some (.int r.1) ∧ h9 = r.2) := by
  refine pm_of (M := m_X6_end) (by decide) rfl rfl rfl (Nat.le_of_ble_eq_true rfl) (lo := [some (.ref a0), some (.int a1)]) rfl ?_
  rw [f_X6_end] at hf
  refine pw_iload_n dX6_end_0 rfl ?_
  refine q_if_lt (tgt := 12) hf dX6_end_1 (by decide) (fun hf _ => ?_) (fun hf _ => ?_)
  · refine pw_iconst (v := (0)) dX6_end_12 (by decide) ?_
    exact pw_iret (x := (0 : Int32)) rfl rfl dX6_end_13 (ret_iw hf)
  · refine pw_iload_n dX6_end_4 rfl ?_
    refine pw_aload_n dX6_end_5 rfl ?_
    refine q_gI hf rfl (by decide) w9_X6_end_X6 (by decide +kernel) dX6_end_6 (fun x1 hf => ?_)
    refine q_icmp_le (tgt := 14) hf dX6_end_9 (by decide) (fun hf _ => ?_) (fun hf _ => ?_)
    · refine pw_aload_n dX6_end_14 rfl ?_
      refine pw_iload_n dX6_end_15 rfl ?_
      refine q_pV (ty := .int) hf tyX6 tyX6_ok nmX6 rfl (by decide) w9_X6_end_X6 (by decide +kernel) rfl (by decide +kernel) rfl rfl dX6_end_16 (fun h2 hf => ?_)
      refine pw_iconst (v := (1)) dX6_end_19 (by decide) ?_
      exact pw_iret (x := (1 : Int32)) rfl rfl dX6_end_20 (ret_iw hf)
    · refine pw_iconst (v := (0)) dX6_end_12 (by decide) ?_
      exact pw_iret (x := (0 : Int32)) rfl rfl dX6_end_13 (ret_iw hf)
/-! X6_becomes -/
abbrev m_X6_becomes : MD := (cX6_becomes, RX6, "becomes", wsX6_becomes, 2, none)
theorem w9_X6_becomes_X1 : ∀ w ∈ u_ws RX1 TX1 8, w ∈ wsX6_becomes := by decide +kernel
theorem w9_X6_becomes_X3 : ∀ w ∈ u_ws RX3 TX3 3, w ∈ wsX6_becomes := by decide +kernel
theorem w9_X6_becomes_X6 : ∀ w ∈ u_ws RX6 TX6 14, w ∈ wsX6_becomes := by decide +kernel
theorem hd9_X6_becomes : yX6_becomes.cls = RX6 ∧ yX6_becomes.cls ≠ "java/lang/invoke/MethodHandle" ∧ yX6_becomes.cls ≠ "java/lang/invoke/VarHandle" ∧ (parseMethodDescriptor yX6_becomes.desc).map (fun d => d.parameters.length) = some 1 := by decide +kernel
def f_X6_becomes (h : Hp) (a0 : Nat) (a1 : Nat) : Option Hp := (gR h a0 6 4).bind fun x1 => if oK h x1 2 = true then (f_X2_copy h x1 a1).bind fun h2 => (gR h2 a0 6 6).bind fun x3 => (pV h2 x3 3 2 (.int (0 : Int32))).bind fun h4 => (gR h4 a0 6 9).bind fun x5 => (pV h4 x5 1 5 (.int (0 : Int32))).bind fun h6 => some h6 else none
set_option maxHeartbeats 4000000 in
set_option maxRecDepth 100000 in
theorem t_X6_becomes {g : GT} {l : Launch} {h : Hp} {a0 : Nat} {a1 : Nat} {r : Hp} (hf : f_X6_becomes h a0 a1 = some r) : PM g l 2 0 0 yX6_becomes wsX6_becomes [.ref a0, .ref a1] h (fun r9 h9 => r9 = none ∧ h9 = r) := by
  refine pm_of (M := m_X6_becomes) (by decide) rfl rfl rfl (Nat.le_of_ble_eq_true rfl) (lo := [some (.ref a0), some (.ref a1)]) rfl ?_
  rw [f_X6_becomes] at hf
  refine pw_aload_n dX6_becomes_0 rfl ?_
  refine q_gR hf rfl (by decide) w9_X6_becomes_X6 (by decide +kernel) dX6_becomes_1 (fun x1 hf => ?_)
  refine pw_aload_n dX6_becomes_4 rfl ?_
  refine q_callV_v (kc2 := 0) (ks2 := 0) (as := [.ref a1]) (rest := []) hf (fun x9 e9 => t_X2_copy e9) gX6_becomes_X2_copy rfl hd9_X2_copy rfl rfl ⟨(by decide), by decide⟩ ⟨rfl, rfl⟩ (Nat.le_of_ble_eq_true rfl) dX6_becomes_5 rfl (fun h2 hf => ?_)
  refine pw_aload_n dX6_becomes_8 rfl ?_
  refine q_gR hf rfl (by decide) w9_X6_becomes_X6 (by decide +kernel) dX6_becomes_9 (fun x3 hf => ?_)
  refine pw_iconst (v := (0)) dX6_becomes_12 (by decide) ?_
  refine q_pVN (host := "TwinRows") (ty := .int) hf tyX3 tyX3_ok nmX3 rfl (by decide) w9_X6_becomes_X3 (by decide +kernel) rfl (by decide +kernel) rfl rfl dX6_becomes_13 (fun h4 hf => ?_)
  refine pw_aload_n dX6_becomes_16 rfl ?_
  refine q_gR hf rfl (by decide) w9_X6_becomes_X6 (by decide +kernel) dX6_becomes_17 (fun x5 hf => ?_)
  refine pw_iconst (v := (0)) dX6_becomes_20 (by decide) ?_
  refine q_pVN (host := "TwinRows") (ty := .boolean) hf tyX1 tyX1_ok nmX1 rfl (by decide) w9_X6_becomes_X1 (by decide +kernel) rfl (by decide +kernel) rfl rfl dX6_becomes_21 (fun h6 hf => ?_)
  exact pw_vret rfl dX6_becomes_24 ⟨rfl, Option.some.inj hf⟩
/-! X6_frame -/
abbrev m_X6_frame : MD := (cX6_frame, RX6, "frame", wsX6_frame, 3, (some .int))
theorem w9_X6_frame_X5 : ∀ w ∈ u_ws RX5 TX5 9, w ∈ wsX6_frame := by decide +kernel
theorem w9_X6_frame_X6 : ∀ w ∈ u_ws RX6 TX6 14, w ∈ wsX6_frame := by decide +kernel
theorem hd9_X6_frame : yX6_frame.cls = RX6 ∧ yX6_frame.cls ≠ "java/lang/invoke/MethodHandle" ∧ yX6_frame.cls ≠ "java/lang/invoke/VarHandle" ∧ (parseMethodDescriptor yX6_frame.desc).map (fun d => d.parameters.length) = some 0 := by decide +kernel
def f_X6_frame (h : Hp) (a0 : Nat) : Option (Int32 × Hp) := (gI h a0 6 1).bind fun x1 => (pV h a0 6 1 (.int (0 : Int32))).bind fun h2 => (gR h2 a0 6 2).bind fun x3 => (gR h2 a0 6 0).bind fun x4 => if oK h2 x3 5 = true then (f_X5_read h2 x3 x4 x1).bind fun x5 => (gR x5.2 a0 6 2).bind fun x6 => (gI x5.2 x6 5 8).bind fun x7 => (pV x5.2 a0 6 3 (.int x7)).bind fun h8 => (gR h8 a0 6 2).bind fun x9 => (gI h8 x9 5 8).bind fun x10 => if x10 = 0 then ((gR h8 a0 6 2).bind fun x11 => (gR h8 x11 5 0).bind fun x12 => if oK h8 a0 6 = true then (f_X6_becomes h8 a0 x12).bind fun h13 => some ((x5.1, h13)) else none) else (some ((x5.1, h8))) else none
set_option maxHeartbeats 4000000 in
set_option maxRecDepth 100000 in
theorem t_X6_frame {g : GT} {l : Launch} {h : Hp} {a0 : Nat} {r : (Int32 × Hp)} (hf : f_X6_frame h a0 = some r) : PM g l 8 0 0 yX6_frame wsX6_frame [.ref a0] h (fun r9 h9 => r9 = some (.int r.1) ∧ h9 = r.2) := by
  refine pm_of (M := m_X6_frame) (by decide) rfl rfl rfl (Nat.le_of_ble_eq_true rfl) (lo := [some (.ref a0), none, none]) rfl ?_
  rw [f_X6_frame] at hf
  refine pw_aload_n dX6_frame_0 rfl ?_
  refine q_gI hf rfl (by decide) w9_X6_frame_X6 (by decide +kernel) dX6_frame_1 (fun x1 hf => ?_)
  refine pw_istore_n dX6_frame_4 (by decide) rfl ?_
  dsimp only [lset, lset2, clr]
  refine pw_aload_n dX6_frame_5 rfl ?_
  refine pw_iconst (v := (0)) dX6_frame_6 (by decide) ?_
  refine q_pV (ty := .int) hf tyX6 tyX6_ok nmX6 rfl (by decide) w9_X6_frame_X6 (by decide +kernel) rfl (by decide +kernel) rfl rfl dX6_frame_7 (fun h2 hf => ?_)
  refine pw_aload_n dX6_frame_10 rfl ?_
  refine q_gR hf rfl (by decide) w9_X6_frame_X6 (by decide +kernel) dX6_frame_11 (fun x3 hf => ?_)
  refine pw_aload_n dX6_frame_14 rfl ?_
  refine q_gR hf rfl (by decide) w9_X6_frame_X6 (by decide +kernel) dX6_frame_15 (fun x4 hf => ?_)
  refine pw_iload_n dX6_frame_18 rfl ?_
  refine q_callV_iw (kc2 := 0) (ks2 := 0) (as := [.ref x4, .int x1]) (rest := []) hf (fun x9 e9 => t_X5_read e9) gX6_frame_X5_read rfl hd9_X5_read rfl rfl ⟨(by decide), by decide⟩ ⟨rfl, rfl⟩ (Nat.le_of_ble_eq_true rfl) dX6_frame_19 rfl (fun x5 hf => ?_)
  refine pw_istore_n dX6_frame_22 (by decide) rfl ?_
  dsimp only [lset, lset2, clr]
  refine pw_aload_n dX6_frame_23 rfl ?_
  refine pw_aload_n dX6_frame_24 rfl ?_
  refine q_gR hf rfl (by decide) w9_X6_frame_X6 (by decide +kernel) dX6_frame_25 (fun x6 hf => ?_)
  refine q_gIN (host := "TwinRows") hf rfl (by decide) w9_X6_frame_X5 (by decide +kernel) dX6_frame_28 (fun x7 hf => ?_)
  refine q_pV (ty := .int) hf tyX6 tyX6_ok nmX6 rfl (by decide) w9_X6_frame_X6 (by decide +kernel) rfl (by decide +kernel) rfl rfl dX6_frame_31 (fun h8 hf => ?_)
  refine pw_aload_n dX6_frame_34 rfl ?_
  refine q_gR hf rfl (by decide) w9_X6_frame_X6 (by decide +kernel) dX6_frame_35 (fun x9 hf => ?_)
  refine q_gIN (host := "TwinRows") hf rfl (by decide) w9_X6_frame_X5 (by decide +kernel) dX6_frame_38 (fun x10 hf => ?_)
  refine q_if_ne (tgt := 55) hf dX6_frame_41 (by decide) (fun hf _ => ?_) (fun hf _ => ?_)
  · refine pw_iload_n dX6_frame_55 rfl ?_
    exact pw_iret (x := x5.1) rfl rfl dX6_frame_56 (ret_iw hf)
  · refine pw_aload_n dX6_frame_44 rfl ?_
    refine pw_aload_n dX6_frame_45 rfl ?_
    refine q_gR hf rfl (by decide) w9_X6_frame_X6 (by decide +kernel) dX6_frame_46 (fun x11 hf => ?_)
    refine q_gRN (host := "TwinRows") hf rfl (by decide) w9_X6_frame_X5 (by decide +kernel) dX6_frame_49 (fun x12 hf => ?_)
    refine q_callV_v (kc2 := 0) (ks2 := 0) (as := [.ref x12]) (rest := []) hf (fun x9 e9 => t_X6_becomes e9) gX6_frame_X6_becomes rfl hd9_X6_becomes rfl rfl ⟨(by decide), by decide⟩ ⟨rfl, rfl⟩ (Nat.le_of_ble_eq_true rfl) dX6_frame_52 rfl (fun h13 hf => ?_)
    refine pw_iload_n dX6_frame_55 rfl ?_
    exact pw_iret (x := x5.1) rfl rfl dX6_frame_56 (ret_iw hf)
/-! X6_fault -/
abbrev m_X6_fault : MD := (cX6_fault, RX6, "fault", wsX6_fault, 1, (some .int))
theorem w9_X6_fault_X6 : ∀ w ∈ u_ws RX6 TX6 14, w ∈ wsX6_fault := by decide +kernel
theorem hd9_X6_fault : yX6_fault.cls = RX6 ∧ yX6_fault.cls ≠ "java/lang/invoke/MethodHandle" ∧ yX6_fault.cls ≠ "java/lang/invoke/VarHandle" ∧ (parseMethodDescriptor yX6_fault.desc).map (fun d => d.parameters.length) = some 0 := by decide +kernel
def f_X6_fault (h : Hp) (a0 : Nat) : Option Int32 := (gI h a0 6 3).bind fun x1 => some (x1)
set_option maxHeartbeats 4000000 in
set_option maxRecDepth 100000 in
theorem t_X6_fault {g : GT} {l : Launch} {h : Hp} {a0 : Nat} {r : Int32} (hf : f_X6_fault h a0 = some r) : PM g l 1 0 0 yX6_fault wsX6_fault [.ref a0] h (fun r9 h9 => r9 = some (.int r) ∧ h9 = h) := by
  refine pm_of (M := m_X6_fault) (by decide) rfl rfl rfl (Nat.le_of_ble_eq_true rfl) (lo := [some (.ref a0)]) rfl ?_
  rw [f_X6_fault] at hf
  refine pw_aload_n dX6_fault_0 rfl ?_
  refine q_gI hf rfl (by decide) w9_X6_fault_X6 (by decide +kernel) dX6_fault_1 (fun x1 hf => ?_)
  exact pw_iret (x := x1) rfl rfl dX6_fault_4 ⟨congrArg (fun z => some (Value.int z)) (Option.some.inj hf), rfl⟩
/-! X6_mostOrder -/
abbrev m_X6_mostOrder : MD := (cX6_mostOrder, RX6, "mostOrder", wsX6_mostOrder, 1, (some .int))
theorem hd9_X6_mostOrder : yX6_mostOrder.cls ≠ "java/lang/invoke/MethodHandle" ∧ yX6_mostOrder.cls ≠ "java/lang/invoke/VarHandle" ∧ (parseMethodDescriptor yX6_mostOrder.desc).map (fun d => d.parameters.length) = some 1 := by decide +kernel
def f_X6_mostOrder (h : Hp) (a0 : Int32) : Option Int32 := if a0 = (1 : Int32) then (some ((8 : Int32))) else (if a0 = (3 : Int32) then (some ((8 : Int32))) else (some ((9 : Int32))))
set_option maxHeartbeats 4000000 in
set_option maxRecDepth 100000 in
theorem t_X6_mostOrder {g : GT} {l : Launch} {h : Hp} {a0 : Int32} {r : Int32} (hf : f_X6_mostOrder h a0 = some r) : PM g l 1 0 0 yX6_mostOrder wsX6_mostOrder [.int a0] h (fun r9 h9 => r9 = some (.int r) ∧ h9 = h) := by
  refine pm_of (M := m_X6_mostOrder) (by decide) rfl rfl rfl (Nat.le_of_ble_eq_true rfl) (lo := [some (.int a0)]) rfl ?_
  rw [f_X6_mostOrder] at hf
  refine pw_iload_n dX6_mostOrder_0 rfl ?_
  refine pw_iconst (v := (1)) dX6_mostOrder_1 (by decide) ?_
  refine q_icmp_eq (tgt := 10) hf dX6_mostOrder_2 (by decide) (fun hf _ => ?_) (fun hf _ => ?_)
  · refine pw_bipush (v := (8)) dX6_mostOrder_10 (by decide) ?_
    refine pw_goto (tgt := 17) dX6_mostOrder_12 (by decide) ?_
    exact pw_iret (x := (8 : Int32)) rfl rfl dX6_mostOrder_17 ⟨congrArg (fun z => some (Value.int z)) (Option.some.inj hf), rfl⟩
  · refine pw_iload_n dX6_mostOrder_5 rfl ?_
    refine pw_iconst (v := (3)) dX6_mostOrder_6 (by decide) ?_
    refine q_icmp_ne (tgt := 15) hf dX6_mostOrder_7 (by decide) (fun hf _ => ?_) (fun hf _ => ?_)
    · refine pw_bipush (v := (9)) dX6_mostOrder_15 (by decide) ?_
      exact pw_iret (x := (9 : Int32)) rfl rfl dX6_mostOrder_17 ⟨congrArg (fun z => some (Value.int z)) (Option.some.inj hf), rfl⟩
    · refine pw_bipush (v := (8)) dX6_mostOrder_10 (by decide) ?_
      refine pw_goto (tgt := 17) dX6_mostOrder_12 (by decide) ?_
      exact pw_iret (x := (8 : Int32)) rfl rfl dX6_mostOrder_17 ⟨congrArg (fun z => some (Value.int z)) (Option.some.inj hf), rfl⟩
/-! X6_acted -/
abbrev m_X6_acted : MD := (cX6_acted, RX6, "acted", wsX6_acted, 1, none)
theorem w9_X6_acted_X1 : ∀ w ∈ u_ws RX1 TX1 8, w ∈ wsX6_acted := by decide +kernel
theorem w9_X6_acted_X6 : ∀ w ∈ u_ws RX6 TX6 14, w ∈ wsX6_acted := by decide +kernel
theorem hd9_X6_acted : yX6_acted.cls = RX6 ∧ yX6_acted.cls ≠ "java/lang/invoke/MethodHandle" ∧ yX6_acted.cls ≠ "java/lang/invoke/VarHandle" ∧ (parseMethodDescriptor yX6_acted.desc).map (fun d => d.parameters.length) = some 0 := by decide +kernel
def f_X6_acted (h : Hp) (a0 : Nat) : Option Hp := (gR h a0 6 6).bind fun x1 => (gR h a0 6 5).bind fun x2 => if oK h x1 3 = true then (f_X3_keep h x1 x2).bind fun h3 => (gR h3 a0 6 9).bind fun x4 => (pV h3 x4 1 5 (.int (0 : Int32))).bind fun h5 => some h5 else none
set_option maxHeartbeats 4000000 in
set_option maxRecDepth 100000 in
theorem t_X6_acted {g : GT} {l : Launch} {h : Hp} {a0 : Nat} {r : Hp} (hf : f_X6_acted h a0 = some r) : PM g l 3 2 20 yX6_acted wsX6_acted [.ref a0] h (fun r9 h9 => r9 = none ∧ h9 = r) := by
  refine pm_of (M := m_X6_acted) (by decide) rfl rfl rfl (Nat.le_of_ble_eq_true rfl) (lo := [some (.ref a0)]) rfl ?_
  rw [f_X6_acted] at hf
  refine pw_aload_n dX6_acted_0 rfl ?_
  refine q_gR hf rfl (by decide) w9_X6_acted_X6 (by decide +kernel) dX6_acted_1 (fun x1 hf => ?_)
  refine pw_aload_n dX6_acted_4 rfl ?_
  refine q_gR hf rfl (by decide) w9_X6_acted_X6 (by decide +kernel) dX6_acted_5 (fun x2 hf => ?_)
  refine q_callV_v (kc2 := 0) (ks2 := 0) (as := [.ref x2]) (rest := []) hf (fun x9 e9 => t_X3_keep e9) gX6_acted_X3_keep rfl hd9_X3_keep rfl rfl ⟨(by decide), by decide⟩ ⟨rfl, rfl⟩ (Nat.le_of_ble_eq_true rfl) dX6_acted_8 rfl (fun h3 hf => ?_)
  refine pw_aload_n dX6_acted_11 rfl ?_
  refine q_gR hf rfl (by decide) w9_X6_acted_X6 (by decide +kernel) dX6_acted_12 (fun x4 hf => ?_)
  refine pw_iconst (v := (0)) dX6_acted_15 (by decide) ?_
  refine q_pVN (host := "TwinRows") (ty := .boolean) hf tyX1 tyX1_ok nmX1 rfl (by decide) w9_X6_acted_X1 (by decide +kernel) rfl (by decide +kernel) rfl rfl dX6_acted_16 (fun h5 hf => ?_)
  exact pw_vret rfl dX6_acted_19 ⟨rfl, Option.some.inj hf⟩
/-! X6_kind -/
abbrev m_X6_kind : MD := (cX6_kind, RX6, "kind", wsX6_kind, 4, (some .int))
theorem w9_X6_kind_X2 : ∀ w ∈ u_ws RX2 TX2 4, w ∈ wsX6_kind := by decide +kernel
theorem w9_X6_kind_X6 : ∀ w ∈ u_ws RX6 TX6 14, w ∈ wsX6_kind := by decide +kernel
theorem hd9_X6_kind : yX6_kind.cls = RX6 ∧ yX6_kind.cls ≠ "java/lang/invoke/MethodHandle" ∧ yX6_kind.cls ≠ "java/lang/invoke/VarHandle" ∧ (parseMethodDescriptor yX6_kind.desc).map (fun d => d.parameters.length) = some 2 := by decide +kernel
def f_X6_kind (h : Hp) (a0 : Nat) (a1 : Int32) (a2 : Int32) : Option (Int32 × Hp) := if a1 < 0 then (some (((-1 : Int32), h))) else (if (3 : Int32) < a1 then (some (((-1 : Int32), h))) else (if a2 < (1 : Int32) then (some (((-1 : Int32), h))) else ((f_X6_mostOrder h a1).bind fun x1 => if a2 ≤ x1 then ((gR h a0 6 5).bind fun x2 => (gR h a0 6 4).bind fun x3 => if oK h x2 2 = true then (f_X2_copy h x2 x3).bind fun h4 => if a1 = (1 : Int32) then ((gR h4 a0 6 4).bind fun x5 => (f_X6_bit h4 ((2 : Int32) * a2)).bind fun x6 => if oK h4 x5 2 = true then (f_X2_begin h4 x5 (((2 : Int32) * a2) + (1 : Int32)) x6 (((1 : Int32) <<< (a2 &&& 31)) - (1 : Int32))).bind fun h7 => if oK h7 a0 6 = true then (f_X6_acted h7 a0).bind fun h8 => (gR h8 a0 6 4).bind fun x9 => (gI h8 x9 2 0).bind fun x10 => some ((x10, h8)) else none else none) else if a1 = (2 : Int32) then ((gR h4 a0 6 4).bind fun x11 => if oK h4 x11 2 = true then (f_X2_begin h4 x11 ((2 : Int32) * a2) (0 : Int32) ((((1 : Int32) <<< (a2 &&& 31)) - (1 : Int32)) <<< ((1 : Int32) &&& 31))).bind fun h12 => if oK h12 a0 6 = true then (f_X6_acted h12 a0).bind fun h13 => (gR h13 a0 6 4).bind fun x14 => (gI h13 x14 2 0).bind fun x15 => some ((x15, h13)) else none else none) else if a1 = (3 : Int32) then ((gR h4 a0 6 4).bind fun x16 => (f_X6_bit h4 (a2 + (1 : Int32))).bind fun x17 => if oK h4 x16 2 = true then (f_X2_begin h4 x16 (((2 : Int32) * a2) + (1 : Int32)) x17 (((1 : Int32) <<< (a2 &&& 31)) - (1 : Int32))).bind fun h18 => if oK h18 a0 6 = true then (f_X6_acted h18 a0).bind fun h19 => (gR h19 a0 6 4).bind fun x20 => (gI h19 x20 2 0).bind fun x21 => some ((x21, h19)) else none else none) else ((gR h4 a0 6 4).bind fun x22 => if oK h4 x22 2 = true then (f_X2_begin h4 x22 ((2 : Int32) * a2) (0 : Int32) (((1 : Int32) <<< (a2 &&& 31)) - (1 : Int32))).bind fun h23 => if oK h23 a0 6 = true then (f_X6_acted h23 a0).bind fun h24 => (gR h24 a0 6 4).bind fun x25 => (gI h24 x25 2 0).bind fun x26 => some ((x26, h24)) else none else none) else none) else (some (((-1 : Int32), h))))))
set_option maxHeartbeats 4000000 in
set_option maxRecDepth 100000 in
theorem t_X6_kind {g : GT} {l : Launch} {h : Hp} {a0 : Nat} {a1 : Int32} {a2 : Int32} {r : (Int32 × Hp)} (hf : f_X6_kind h a0 a1 a2 = some r) : PM g l 4 2 20 yX6_kind wsX6_kind [.ref a0, .int a1, .int a2] h (fun r9 h9 => r9 = some (.int r.1) ∧ h9 = r.2) := by
  refine pm_of (M := m_X6_kind) (by decide) rfl rfl rfl (Nat.le_of_ble_eq_true rfl) (lo := [some (.ref a0), some (.int a1), some (.int a2), none]) rfl ?_
  rw [f_X6_kind] at hf
  refine pw_iload_n dX6_kind_0 rfl ?_
  refine q_if_lt (tgt := 22) hf dX6_kind_1 (by decide) (fun hf _ => ?_) (fun hf _ => ?_)
  · refine pw_iconst (v := (-1)) dX6_kind_22 (by decide) ?_
    exact pw_iret (x := (-1 : Int32)) rfl rfl dX6_kind_23 (ret_iw hf)
  · refine pw_iload_n dX6_kind_4 rfl ?_
    refine pw_iconst (v := (3)) dX6_kind_5 (by decide) ?_
    refine q_icmp_gt (tgt := 22) hf dX6_kind_6 (by decide) (fun hf _ => ?_) (fun hf _ => ?_)
    · refine pw_iconst (v := (-1)) dX6_kind_22 (by decide) ?_
      exact pw_iret (x := (-1 : Int32)) rfl rfl dX6_kind_23 (ret_iw hf)
    · refine pw_iload_n dX6_kind_9 rfl ?_
      refine pw_iconst (v := (1)) dX6_kind_10 (by decide) ?_
      refine q_icmp_lt (tgt := 22) hf dX6_kind_11 (by decide) (fun hf _ => ?_) (fun hf _ => ?_)
      · refine pw_iconst (v := (-1)) dX6_kind_22 (by decide) ?_
        exact pw_iret (x := (-1 : Int32)) rfl rfl dX6_kind_23 (ret_iw hf)
      · refine pw_iload_n dX6_kind_14 rfl ?_
        refine pw_iload_n dX6_kind_15 rfl ?_
        refine q_callS_i (kc2 := 2) (ks2 := 20) (as := [.int a1]) (rest := [.int a2]) hf (fun x9 e9 => t_X6_mostOrder e9) gX6_kind_X6_mostOrder rfl hd9_X6_mostOrder rfl ⟨(by decide), by decide⟩ ⟨rfl, rfl⟩ (Nat.le_of_ble_eq_true rfl) dX6_kind_16 rfl (fun x1 hf => ?_)
        refine q_icmp_le (tgt := 24) hf dX6_kind_19 (by decide) (fun hf _ => ?_) (fun hf _ => ?_)
        · refine pw_aload_n dX6_kind_24 rfl ?_
          refine q_gR hf rfl (by decide) w9_X6_kind_X6 (by decide +kernel) dX6_kind_25 (fun x2 hf => ?_)
          refine pw_aload_n dX6_kind_28 rfl ?_
          refine q_gR hf rfl (by decide) w9_X6_kind_X6 (by decide +kernel) dX6_kind_29 (fun x3 hf => ?_)
          refine q_callV_v (kc2 := 2) (ks2 := 20) (as := [.ref x3]) (rest := []) hf (fun x9 e9 => t_X2_copy e9) gX6_kind_X2_copy rfl hd9_X2_copy rfl rfl ⟨(by decide), by decide⟩ ⟨rfl, rfl⟩ (Nat.le_of_ble_eq_true rfl) dX6_kind_32 rfl (fun h4 hf => ?_)
          refine pw_iconst (v := (1)) dX6_kind_35 (by decide) ?_
          refine pw_iload_n dX6_kind_36 rfl ?_
          refine pw_ishl dX6_kind_37 ?_
          refine pw_iconst (v := (1)) dX6_kind_38 (by decide) ?_
          refine pw_isub dX6_kind_39 ?_
          refine pw_istore_n dX6_kind_40 (by decide) rfl ?_
          dsimp only [lset, lset2, clr]
          refine pw_iload_n dX6_kind_41 rfl ?_
          rcases ite2 hf with ⟨hc9, hf⟩ | ⟨hc9, hf⟩
          · refine pw_tableIn (off := 26) (tgt := 68) dX6_kind_42 (by rw [hc9]; decide) (by rw [hc9]; decide) (by rw [hc9]; rfl) (by decide) ?_
            refine pw_aload_n dX6_kind_68 rfl ?_
            refine q_gR hf rfl (by decide) w9_X6_kind_X6 (by decide +kernel) dX6_kind_69 (fun x5 hf => ?_)
            refine pw_iconst (v := (2)) dX6_kind_72 (by decide) ?_
            refine pw_iload_n dX6_kind_73 rfl ?_
            refine pw_imul dX6_kind_74 ?_
            refine pw_iconst (v := (1)) dX6_kind_75 (by decide) ?_
            refine pw_iadd dX6_kind_76 ?_
            refine pw_iconst (v := (2)) dX6_kind_77 (by decide) ?_
            refine pw_iload_n dX6_kind_78 rfl ?_
            refine pw_imul dX6_kind_79 ?_
            refine q_callS_i (kc2 := 2) (ks2 := 20) (as := [.int ((2 : Int32) * a2)]) (rest := [.int (((2 : Int32) * a2) + (1 : Int32)), .ref x5]) hf (fun x9 e9 => t_X6_bit e9) gX6_kind_X6_bit rfl hd9_X6_bit rfl ⟨(by decide), by decide⟩ ⟨rfl, rfl⟩ (Nat.le_of_ble_eq_true rfl) dX6_kind_80 rfl (fun x6 hf => ?_)
            refine pw_iload_n dX6_kind_83 rfl ?_
            refine q_callV_v (kc2 := 2) (ks2 := 20) (as := [.int (((2 : Int32) * a2) + (1 : Int32)), .int x6, .int (((1 : Int32) <<< (a2 &&& 31)) - (1 : Int32))]) (rest := []) hf (fun x9 e9 => t_X2_begin e9) gX6_kind_X2_begin rfl hd9_X2_begin rfl rfl ⟨(by decide), by decide⟩ ⟨rfl, rfl⟩ (Nat.le_of_ble_eq_true rfl) dX6_kind_84 rfl (fun h7 hf => ?_)
            refine pw_goto (tgt := 141) dX6_kind_87 (by decide) ?_
            refine pw_aload_n dX6_kind_141 rfl ?_
            refine q_callV_v (kc2 := 0) (ks2 := 0) (as := []) (rest := []) hf (fun x9 e9 => t_X6_acted e9) gX6_kind_X6_acted rfl hd9_X6_acted rfl rfl ⟨(by decide), by decide⟩ ⟨rfl, rfl⟩ (Nat.le_of_ble_eq_true rfl) dX6_kind_142 rfl (fun h8 hf => ?_)
            refine pw_aload_n dX6_kind_145 rfl ?_
            refine q_gR hf rfl (by decide) w9_X6_kind_X6 (by decide +kernel) dX6_kind_146 (fun x9 hf => ?_)
            refine q_gIN (host := "TwinRows") hf rfl (by decide) w9_X6_kind_X2 (by decide +kernel) dX6_kind_149 (fun x10 hf => ?_)
            exact pw_iret (x := x10) rfl rfl dX6_kind_152 (ret_iw hf)
          have hn0 := hc9
          rcases ite2 hf with ⟨hc9, hf⟩ | ⟨hc9, hf⟩
          · refine pw_tableIn (off := 48) (tgt := 90) dX6_kind_42 (by rw [hc9]; decide) (by rw [hc9]; decide) (by rw [hc9]; rfl) (by decide) ?_
            refine pw_aload_n dX6_kind_90 rfl ?_
            refine q_gR hf rfl (by decide) w9_X6_kind_X6 (by decide +kernel) dX6_kind_91 (fun x11 hf => ?_)
            refine pw_iconst (v := (2)) dX6_kind_94 (by decide) ?_
            refine pw_iload_n dX6_kind_95 rfl ?_
            refine pw_imul dX6_kind_96 ?_
            refine pw_iconst (v := (0)) dX6_kind_97 (by decide) ?_
            refine pw_iload_n dX6_kind_98 rfl ?_
            refine pw_iconst (v := (1)) dX6_kind_99 (by decide) ?_
            refine pw_ishl dX6_kind_100 ?_
            refine q_callV_v (kc2 := 2) (ks2 := 20) (as := [.int ((2 : Int32) * a2), .int (0 : Int32), .int ((((1 : Int32) <<< (a2 &&& 31)) - (1 : Int32)) <<< ((1 : Int32) &&& 31))]) (rest := []) hf (fun x9 e9 => t_X2_begin e9) gX6_kind_X2_begin rfl hd9_X2_begin rfl rfl ⟨(by decide), by decide⟩ ⟨rfl, rfl⟩ (Nat.le_of_ble_eq_true rfl) dX6_kind_101 rfl (fun h12 hf => ?_)
            refine pw_goto (tgt := 141) dX6_kind_104 (by decide) ?_
            refine pw_aload_n dX6_kind_141 rfl ?_
            refine q_callV_v (kc2 := 0) (ks2 := 0) (as := []) (rest := []) hf (fun x9 e9 => t_X6_acted e9) gX6_kind_X6_acted rfl hd9_X6_acted rfl rfl ⟨(by decide), by decide⟩ ⟨rfl, rfl⟩ (Nat.le_of_ble_eq_true rfl) dX6_kind_142 rfl (fun h13 hf => ?_)
            refine pw_aload_n dX6_kind_145 rfl ?_
            refine q_gR hf rfl (by decide) w9_X6_kind_X6 (by decide +kernel) dX6_kind_146 (fun x14 hf => ?_)
            refine q_gIN (host := "TwinRows") hf rfl (by decide) w9_X6_kind_X2 (by decide +kernel) dX6_kind_149 (fun x15 hf => ?_)
            exact pw_iret (x := x15) rfl rfl dX6_kind_152 (ret_iw hf)
          have hn1 := hc9
          rcases ite2 hf with ⟨hc9, hf⟩ | ⟨hc9, hf⟩
          · refine pw_tableIn (off := 65) (tgt := 107) dX6_kind_42 (by rw [hc9]; decide) (by rw [hc9]; decide) (by rw [hc9]; rfl) (by decide) ?_
            refine pw_aload_n dX6_kind_107 rfl ?_
            refine q_gR hf rfl (by decide) w9_X6_kind_X6 (by decide +kernel) dX6_kind_108 (fun x16 hf => ?_)
            refine pw_iconst (v := (2)) dX6_kind_111 (by decide) ?_
            refine pw_iload_n dX6_kind_112 rfl ?_
            refine pw_imul dX6_kind_113 ?_
            refine pw_iconst (v := (1)) dX6_kind_114 (by decide) ?_
            refine pw_iadd dX6_kind_115 ?_
            refine pw_iload_n dX6_kind_116 rfl ?_
            refine pw_iconst (v := (1)) dX6_kind_117 (by decide) ?_
            refine pw_iadd dX6_kind_118 ?_
            refine q_callS_i (kc2 := 2) (ks2 := 20) (as := [.int (a2 + (1 : Int32))]) (rest := [.int (((2 : Int32) * a2) + (1 : Int32)), .ref x16]) hf (fun x9 e9 => t_X6_bit e9) gX6_kind_X6_bit rfl hd9_X6_bit rfl ⟨(by decide), by decide⟩ ⟨rfl, rfl⟩ (Nat.le_of_ble_eq_true rfl) dX6_kind_119 rfl (fun x17 hf => ?_)
            refine pw_iload_n dX6_kind_122 rfl ?_
            refine q_callV_v (kc2 := 2) (ks2 := 20) (as := [.int (((2 : Int32) * a2) + (1 : Int32)), .int x17, .int (((1 : Int32) <<< (a2 &&& 31)) - (1 : Int32))]) (rest := []) hf (fun x9 e9 => t_X2_begin e9) gX6_kind_X2_begin rfl hd9_X2_begin rfl rfl ⟨(by decide), by decide⟩ ⟨rfl, rfl⟩ (Nat.le_of_ble_eq_true rfl) dX6_kind_123 rfl (fun h18 hf => ?_)
            refine pw_goto (tgt := 141) dX6_kind_126 (by decide) ?_
            refine pw_aload_n dX6_kind_141 rfl ?_
            refine q_callV_v (kc2 := 0) (ks2 := 0) (as := []) (rest := []) hf (fun x9 e9 => t_X6_acted e9) gX6_kind_X6_acted rfl hd9_X6_acted rfl rfl ⟨(by decide), by decide⟩ ⟨rfl, rfl⟩ (Nat.le_of_ble_eq_true rfl) dX6_kind_142 rfl (fun h19 hf => ?_)
            refine pw_aload_n dX6_kind_145 rfl ?_
            refine q_gR hf rfl (by decide) w9_X6_kind_X6 (by decide +kernel) dX6_kind_146 (fun x20 hf => ?_)
            refine q_gIN (host := "TwinRows") hf rfl (by decide) w9_X6_kind_X2 (by decide +kernel) dX6_kind_149 (fun x21 hf => ?_)
            exact pw_iret (x := x21) rfl rfl dX6_kind_152 (ret_iw hf)
          have hn2 := hc9
          refine pw_tableOut (tgt := 129) dX6_kind_42 (tab_out3_1 hn0 hn1 hn2) (by decide) ?_
          refine pw_aload_n dX6_kind_129 rfl ?_
          refine q_gR hf rfl (by decide) w9_X6_kind_X6 (by decide +kernel) dX6_kind_130 (fun x22 hf => ?_)
          refine pw_iconst (v := (2)) dX6_kind_133 (by decide) ?_
          refine pw_iload_n dX6_kind_134 rfl ?_
          refine pw_imul dX6_kind_135 ?_
          refine pw_iconst (v := (0)) dX6_kind_136 (by decide) ?_
          refine pw_iload_n dX6_kind_137 rfl ?_
          refine q_callV_v (kc2 := 2) (ks2 := 20) (as := [.int ((2 : Int32) * a2), .int (0 : Int32), .int (((1 : Int32) <<< (a2 &&& 31)) - (1 : Int32))]) (rest := []) hf (fun x9 e9 => t_X2_begin e9) gX6_kind_X2_begin rfl hd9_X2_begin rfl rfl ⟨(by decide), by decide⟩ ⟨rfl, rfl⟩ (Nat.le_of_ble_eq_true rfl) dX6_kind_138 rfl (fun h23 hf => ?_)
          refine pw_aload_n dX6_kind_141 rfl ?_
          refine q_callV_v (kc2 := 0) (ks2 := 0) (as := []) (rest := []) hf (fun x9 e9 => t_X6_acted e9) gX6_kind_X6_acted rfl hd9_X6_acted rfl rfl ⟨(by decide), by decide⟩ ⟨rfl, rfl⟩ (Nat.le_of_ble_eq_true rfl) dX6_kind_142 rfl (fun h24 hf => ?_)
          refine pw_aload_n dX6_kind_145 rfl ?_
          refine q_gR hf rfl (by decide) w9_X6_kind_X6 (by decide +kernel) dX6_kind_146 (fun x25 hf => ?_)
          refine q_gIN (host := "TwinRows") hf rfl (by decide) w9_X6_kind_X2 (by decide +kernel) dX6_kind_149 (fun x26 hf => ?_)
          exact pw_iret (x := x26) rfl rfl dX6_kind_152 (ret_iw hf)
        · refine pw_iconst (v := (-1)) dX6_kind_22 (by decide) ?_
          exact pw_iret (x := (-1 : Int32)) rfl rfl dX6_kind_23 (ret_iw hf)
/-! X6_now -/
abbrev m_X6_now : MD := (cX6_now, RX6, "now", wsX6_now, 2, (some .int))
theorem w9_X6_now_X2 : ∀ w ∈ u_ws RX2 TX2 4, w ∈ wsX6_now := by decide +kernel
theorem w9_X6_now_X3 : ∀ w ∈ u_ws RX3 TX3 3, w ∈ wsX6_now := by decide +kernel
theorem w9_X6_now_X6 : ∀ w ∈ u_ws RX6 TX6 14, w ∈ wsX6_now := by decide +kernel
theorem hd9_X6_now : yX6_now.cls = RX6 ∧ yX6_now.cls ≠ "java/lang/invoke/MethodHandle" ∧ yX6_now.cls ≠ "java/lang/invoke/VarHandle" ∧ (parseMethodDescriptor yX6_now.desc).map (fun d => d.parameters.length) = some 1 := by decide +kernel
def f_X6_now (h : Hp) (a0 : Nat) (a1 : Int32) : Option Int32 := if a1 = (0 : Int32) then ((gR h a0 6 4).bind fun x1 => (gI h x1 2 0).bind fun x2 => some (x2)) else if a1 = (1 : Int32) then ((gR h a0 6 4).bind fun x3 => (gI h x3 2 1).bind fun x4 => some (x4)) else if a1 = (2 : Int32) then ((gR h a0 6 4).bind fun x5 => (gI h x5 2 2).bind fun x6 => some (x6)) else if a1 = (3 : Int32) then ((gR h a0 6 4).bind fun x7 => if oK h x7 2 = true then (f_X2_pinnedPairs h x7).bind fun x8 => some (x8) else none) else if a1 = (4 : Int32) then ((gR h a0 6 4).bind fun x9 => if oK h x9 2 = true then (f_X2_isEven h x9).bind fun x10 => if x10 = 0 then (some ((0 : Int32))) else (some ((1 : Int32))) else none) else if a1 = (5 : Int32) then ((gR h a0 6 6).bind fun x11 => (gI h x11 3 2).bind fun x12 => some (x12)) else if a1 = (6 : Int32) then ((gI h a0 6 1).bind fun x13 => some (x13)) else (some ((-1 : Int32)))
set_option maxHeartbeats 4000000 in
set_option maxRecDepth 100000 in
theorem t_X6_now {g : GT} {l : Launch} {h : Hp} {a0 : Nat} {a1 : Int32} {r : Int32} (hf : f_X6_now h a0 a1 = some r) : PM g l 4 0 0 yX6_now wsX6_now [.ref a0, .int a1] h (fun r9 h9 => r9 = some (.int r) ∧ h9 = h) := by
  refine pm_of (M := m_X6_now) (by decide) rfl rfl rfl (Nat.le_of_ble_eq_true rfl) (lo := [some (.ref a0), some (.int a1)]) rfl ?_
  rw [f_X6_now] at hf
  refine pw_iload_n dX6_now_0 rfl ?_
  rcases ite2 hf with ⟨hc9, hf⟩ | ⟨hc9, hf⟩
  · refine pw_tableIn (off := 43) (tgt := 44) dX6_now_1 (by rw [hc9]; decide) (by rw [hc9]; decide) (by rw [hc9]; rfl) (by decide) ?_
    refine pw_aload_n dX6_now_44 rfl ?_
    refine q_gR hf rfl (by decide) w9_X6_now_X6 (by decide +kernel) dX6_now_45 (fun x1 hf => ?_)
    refine q_gIN (host := "TwinRows") hf rfl (by decide) w9_X6_now_X2 (by decide +kernel) dX6_now_48 (fun x2 hf => ?_)
    exact pw_iret (x := x2) rfl rfl dX6_now_51 ⟨congrArg (fun z => some (Value.int z)) (Option.some.inj hf), rfl⟩
  have hn0 := hc9
  rcases ite2 hf with ⟨hc9, hf⟩ | ⟨hc9, hf⟩
  · refine pw_tableIn (off := 51) (tgt := 52) dX6_now_1 (by rw [hc9]; decide) (by rw [hc9]; decide) (by rw [hc9]; rfl) (by decide) ?_
    refine pw_aload_n dX6_now_52 rfl ?_
    refine q_gR hf rfl (by decide) w9_X6_now_X6 (by decide +kernel) dX6_now_53 (fun x3 hf => ?_)
    refine q_gIN (host := "TwinRows") hf rfl (by decide) w9_X6_now_X2 (by decide +kernel) dX6_now_56 (fun x4 hf => ?_)
    exact pw_iret (x := x4) rfl rfl dX6_now_59 ⟨congrArg (fun z => some (Value.int z)) (Option.some.inj hf), rfl⟩
  have hn1 := hc9
  rcases ite2 hf with ⟨hc9, hf⟩ | ⟨hc9, hf⟩
  · refine pw_tableIn (off := 59) (tgt := 60) dX6_now_1 (by rw [hc9]; decide) (by rw [hc9]; decide) (by rw [hc9]; rfl) (by decide) ?_
    refine pw_aload_n dX6_now_60 rfl ?_
    refine q_gR hf rfl (by decide) w9_X6_now_X6 (by decide +kernel) dX6_now_61 (fun x5 hf => ?_)
    refine q_gIN (host := "TwinRows") hf rfl (by decide) w9_X6_now_X2 (by decide +kernel) dX6_now_64 (fun x6 hf => ?_)
    exact pw_iret (x := x6) rfl rfl dX6_now_67 ⟨congrArg (fun z => some (Value.int z)) (Option.some.inj hf), rfl⟩
  have hn2 := hc9
  rcases ite2 hf with ⟨hc9, hf⟩ | ⟨hc9, hf⟩
  · refine pw_tableIn (off := 67) (tgt := 68) dX6_now_1 (by rw [hc9]; decide) (by rw [hc9]; decide) (by rw [hc9]; rfl) (by decide) ?_
    refine pw_aload_n dX6_now_68 rfl ?_
    refine q_gR hf rfl (by decide) w9_X6_now_X6 (by decide +kernel) dX6_now_69 (fun x7 hf => ?_)
    refine q_callV_i (kc2 := 0) (ks2 := 0) (as := []) (rest := []) hf (fun x9 e9 => t_X2_pinnedPairs e9) gX6_now_X2_pinnedPairs rfl hd9_X2_pinnedPairs rfl rfl ⟨(by decide), by decide⟩ ⟨rfl, rfl⟩ (Nat.le_of_ble_eq_true rfl) dX6_now_72 rfl (fun x8 hf => ?_)
    exact pw_iret (x := x8) rfl rfl dX6_now_75 ⟨congrArg (fun z => some (Value.int z)) (Option.some.inj hf), rfl⟩
  have hn3 := hc9
  rcases ite2 hf with ⟨hc9, hf⟩ | ⟨hc9, hf⟩
  · refine pw_tableIn (off := 75) (tgt := 76) dX6_now_1 (by rw [hc9]; decide) (by rw [hc9]; decide) (by rw [hc9]; rfl) (by decide) ?_
    refine pw_aload_n dX6_now_76 rfl ?_
    refine q_gR hf rfl (by decide) w9_X6_now_X6 (by decide +kernel) dX6_now_77 (fun x9 hf => ?_)
    refine q_callV_i (kc2 := 0) (ks2 := 0) (as := []) (rest := []) hf (fun x9 e9 => t_X2_isEven e9) gX6_now_X2_isEven rfl hd9_X2_isEven rfl rfl ⟨(by decide), by decide⟩ ⟨rfl, rfl⟩ (Nat.le_of_ble_eq_true rfl) dX6_now_80 rfl (fun x10 hf => ?_)
    refine q_if_eq (tgt := 90) hf dX6_now_83 (by decide) (fun hf _ => ?_) (fun hf _ => ?_)
    · refine pw_iconst (v := (0)) dX6_now_90 (by decide) ?_
      exact pw_iret (x := (0 : Int32)) rfl rfl dX6_now_91 ⟨congrArg (fun z => some (Value.int z)) (Option.some.inj hf), rfl⟩
    · refine pw_iconst (v := (1)) dX6_now_86 (by decide) ?_
      refine pw_goto (tgt := 91) dX6_now_87 (by decide) ?_
      exact pw_iret (x := (1 : Int32)) rfl rfl dX6_now_91 ⟨congrArg (fun z => some (Value.int z)) (Option.some.inj hf), rfl⟩
  have hn4 := hc9
  rcases ite2 hf with ⟨hc9, hf⟩ | ⟨hc9, hf⟩
  · refine pw_tableIn (off := 91) (tgt := 92) dX6_now_1 (by rw [hc9]; decide) (by rw [hc9]; decide) (by rw [hc9]; rfl) (by decide) ?_
    refine pw_aload_n dX6_now_92 rfl ?_
    refine q_gR hf rfl (by decide) w9_X6_now_X6 (by decide +kernel) dX6_now_93 (fun x11 hf => ?_)
    refine q_gIN (host := "TwinRows") hf rfl (by decide) w9_X6_now_X3 (by decide +kernel) dX6_now_96 (fun x12 hf => ?_)
    exact pw_iret (x := x12) rfl rfl dX6_now_99 ⟨congrArg (fun z => some (Value.int z)) (Option.some.inj hf), rfl⟩
  have hn5 := hc9
  rcases ite2 hf with ⟨hc9, hf⟩ | ⟨hc9, hf⟩
  · refine pw_tableIn (off := 99) (tgt := 100) dX6_now_1 (by rw [hc9]; decide) (by rw [hc9]; decide) (by rw [hc9]; rfl) (by decide) ?_
    refine pw_aload_n dX6_now_100 rfl ?_
    refine q_gI hf rfl (by decide) w9_X6_now_X6 (by decide +kernel) dX6_now_101 (fun x13 hf => ?_)
    exact pw_iret (x := x13) rfl rfl dX6_now_104 ⟨congrArg (fun z => some (Value.int z)) (Option.some.inj hf), rfl⟩
  have hn6 := hc9
  refine pw_tableOut (tgt := 105) dX6_now_1 (tab_out7_0 hn0 hn1 hn2 hn3 hn4 hn5 hn6) (by decide) ?_
  refine pw_iconst (v := (-1)) dX6_now_105 (by decide) ?_
  exact pw_iret (x := (-1 : Int32)) rfl rfl dX6_now_106 ⟨congrArg (fun z => some (Value.int z)) (Option.some.inj hf), rfl⟩
/-! X6_pinned -/
abbrev m_X6_pinned : MD := (cX6_pinned, RX6, "pinned", wsX6_pinned, 2, (some .int))
theorem w9_X6_pinned_X2 : ∀ w ∈ u_ws RX2 TX2 4, w ∈ wsX6_pinned := by decide +kernel
theorem w9_X6_pinned_X6 : ∀ w ∈ u_ws RX6 TX6 14, w ∈ wsX6_pinned := by decide +kernel
theorem hd9_X6_pinned : yX6_pinned.cls = RX6 ∧ yX6_pinned.cls ≠ "java/lang/invoke/MethodHandle" ∧ yX6_pinned.cls ≠ "java/lang/invoke/VarHandle" ∧ (parseMethodDescriptor yX6_pinned.desc).map (fun d => d.parameters.length) = some 1 := by decide +kernel
def f_X6_pinned (h : Hp) (a0 : Nat) (a1 : Int32) : Option Int32 := (gR h a0 6 4).bind fun x1 => if oK h x1 2 = true then (f_X2_hasPair h x1 a1).bind fun x2 => if x2 = 0 then (some ((-1 : Int32))) else ((gR h a0 6 4).bind fun x3 => (gR h x3 2 3).bind fun x4 => (aI h 0 x4 a1).bind fun x5 => some (x5)) else none
set_option maxHeartbeats 4000000 in
set_option maxRecDepth 100000 in
theorem t_X6_pinned {g : GT} {l : Launch} {h : Hp} {a0 : Nat} {a1 : Int32} {r : Int32} (hf : f_X6_pinned h a0 a1 = some r) : PM g l 3 0 0 yX6_pinned wsX6_pinned [.ref a0, .int a1] h (fun r9 h9 => r9 = some (.int r) ∧ h9 = h) := by
  refine pm_of (M := m_X6_pinned) (by decide) rfl rfl rfl (Nat.le_of_ble_eq_true rfl) (lo := [some (.ref a0), some (.int a1)]) rfl ?_
  rw [f_X6_pinned] at hf
  refine pw_aload_n dX6_pinned_0 rfl ?_
  refine q_gR hf rfl (by decide) w9_X6_pinned_X6 (by decide +kernel) dX6_pinned_1 (fun x1 hf => ?_)
  refine pw_iload_n dX6_pinned_4 rfl ?_
  refine q_callV_i (kc2 := 0) (ks2 := 0) (as := [.int a1]) (rest := []) hf (fun x9 e9 => t_X2_hasPair e9) gX6_pinned_X2_hasPair rfl hd9_X2_hasPair rfl rfl ⟨(by decide), by decide⟩ ⟨rfl, rfl⟩ (Nat.le_of_ble_eq_true rfl) dX6_pinned_5 rfl (fun x2 hf => ?_)
  refine q_if_eq (tgt := 23) hf dX6_pinned_8 (by decide) (fun hf _ => ?_) (fun hf _ => ?_)
  · refine pw_iconst (v := (-1)) dX6_pinned_23 (by decide) ?_
    exact pw_iret (x := (-1 : Int32)) rfl rfl dX6_pinned_24 ⟨congrArg (fun z => some (Value.int z)) (Option.some.inj hf), rfl⟩
  · refine pw_aload_n dX6_pinned_11 rfl ?_
    refine q_gR hf rfl (by decide) w9_X6_pinned_X6 (by decide +kernel) dX6_pinned_12 (fun x3 hf => ?_)
    refine q_gRN (host := "TwinRows") hf rfl (by decide) w9_X6_pinned_X2 (by decide +kernel) dX6_pinned_15 (fun x4 hf => ?_)
    refine pw_iload_n dX6_pinned_18 rfl ?_
    refine q_iald hf dX6_pinned_19 (fun x5 hf => ?_)
    refine pw_goto (tgt := 24) dX6_pinned_20 (by decide) ?_
    exact pw_iret (x := x5) rfl rfl dX6_pinned_24 ⟨congrArg (fun z => some (Value.int z)) (Option.some.inj hf), rfl⟩
/-! X6_counted -/
abbrev m_X6_counted : MD := (cX6_counted, RX6, "counted", wsX6_counted, 1, (some (.object "TwinRows$Fillings")))
theorem w9_X6_counted_X1 : ∀ w ∈ u_ws RX1 TX1 8, w ∈ wsX6_counted := by decide +kernel
theorem w9_X6_counted_X6 : ∀ w ∈ u_ws RX6 TX6 14, w ∈ wsX6_counted := by decide +kernel
theorem hd9_X6_counted : yX6_counted.cls = RX6 ∧ yX6_counted.cls ≠ "java/lang/invoke/MethodHandle" ∧ yX6_counted.cls ≠ "java/lang/invoke/VarHandle" ∧ (parseMethodDescriptor yX6_counted.desc).map (fun d => d.parameters.length) = some 0 := by decide +kernel
def f_X6_counted (h : Hp) (a0 : Nat) : Option (Nat × Hp) := (gR h a0 6 9).bind fun x1 => (gI h x1 1 5).bind fun x2 => if x2 = 0 then ((gR h a0 6 9).bind fun x4 => (gR h a0 6 4).bind fun x5 => if oK h x4 1 = true then (f_X1_countAll h x4 x5).bind fun h6 => (gR h6 a0 6 9).bind fun x7 => some ((x7, h6)) else none) else ((gR h a0 6 9).bind fun x3 => some ((x3, h)))
set_option maxHeartbeats 4000000 in
set_option maxRecDepth 100000 in
theorem t_X6_counted {g : GT} {l : Launch} {h : Hp} {a0 : Nat} {r : (Nat × Hp)} (hf : f_X6_counted h a0 = some r) : PM g l 42 0 0 yX6_counted wsX6_counted [.ref a0] h (fun r9 h9 => r9 = some (.ref r.1) ∧ h9 = r.2) := by
  refine pm_of (M := m_X6_counted) (by decide) rfl rfl rfl (Nat.le_of_ble_eq_true rfl) (lo := [some (.ref a0)]) rfl ?_
  rw [f_X6_counted] at hf
  refine pw_aload_n dX6_counted_0 rfl ?_
  refine q_gR hf rfl (by decide) w9_X6_counted_X6 (by decide +kernel) dX6_counted_1 (fun x1 hf => ?_)
  refine q_gIN (host := "TwinRows") hf rfl (by decide) w9_X6_counted_X1 (by decide +kernel) dX6_counted_4 (fun x2 hf => ?_)
  refine q_if_ne (tgt := 21) hf dX6_counted_7 (by decide) (fun hf _ => ?_) (fun hf _ => ?_)
  · refine pw_aload_n dX6_counted_21 rfl ?_
    refine q_gR hf rfl (by decide) w9_X6_counted_X6 (by decide +kernel) dX6_counted_22 (fun x3 hf => ?_)
    exact pw_aret (x := x3) rfl (Or.inl ⟨_, rfl⟩) dX6_counted_25 (ret_aw hf)
  · refine pw_aload_n dX6_counted_10 rfl ?_
    refine q_gR hf rfl (by decide) w9_X6_counted_X6 (by decide +kernel) dX6_counted_11 (fun x4 hf => ?_)
    refine pw_aload_n dX6_counted_14 rfl ?_
    refine q_gR hf rfl (by decide) w9_X6_counted_X6 (by decide +kernel) dX6_counted_15 (fun x5 hf => ?_)
    refine q_callV_v (kc2 := 0) (ks2 := 0) (as := [.ref x5]) (rest := []) hf (fun x9 e9 => t_X1_countAll e9) gX6_counted_X1_countAll rfl hd9_X1_countAll rfl rfl ⟨(by decide), by decide⟩ ⟨rfl, rfl⟩ (Nat.le_of_ble_eq_true rfl) dX6_counted_18 rfl (fun h6 hf => ?_)
    refine pw_aload_n dX6_counted_21 rfl ?_
    refine q_gR hf rfl (by decide) w9_X6_counted_X6 (by decide +kernel) dX6_counted_22 (fun x7 hf => ?_)
    exact pw_aret (x := x7) rfl (Or.inl ⟨_, rfl⟩) dX6_counted_25 (ret_aw hf)
/-! X6_ways -/
abbrev m_X6_ways : MD := (cX6_ways, RX6, "ways", wsX6_ways, 1, (some .int))
theorem w9_X6_ways_X1 : ∀ w ∈ u_ws RX1 TX1 8, w ∈ wsX6_ways := by decide +kernel
theorem hd9_X6_ways : yX6_ways.cls = RX6 ∧ yX6_ways.cls ≠ "java/lang/invoke/MethodHandle" ∧ yX6_ways.cls ≠ "java/lang/invoke/VarHandle" ∧ (parseMethodDescriptor yX6_ways.desc).map (fun d => d.parameters.length) = some 0 := by decide +kernel
def f_X6_ways (h : Hp) (a0 : Nat) : Option (Int32 × Hp) := if oK h a0 6 = true then (f_X6_counted h a0).bind fun x1 => (gI x1.2 x1.1 1 7).bind fun x2 => some ((x2, x1.2)) else none
set_option maxHeartbeats 4000000 in
set_option maxRecDepth 100000 in
theorem t_X6_ways {g : GT} {l : Launch} {h : Hp} {a0 : Nat} {r : (Int32 × Hp)} (hf : f_X6_ways h a0 = some r) : PM g l 43 0 0 yX6_ways wsX6_ways [.ref a0] h (fun r9 h9 => r9 = some (.int r.1) ∧ h9 = r.2) := by
  refine pm_of (M := m_X6_ways) (by decide) rfl rfl rfl (Nat.le_of_ble_eq_true rfl) (lo := [some (.ref a0)]) rfl ?_
  rw [f_X6_ways] at hf
  refine pw_aload_n dX6_ways_0 rfl ?_
  refine q_callV_aw (kc2 := 0) (ks2 := 0) (as := []) (rest := []) hf (fun x9 e9 => t_X6_counted e9) gX6_ways_X6_counted rfl hd9_X6_counted rfl rfl ⟨(by decide), by decide⟩ ⟨rfl, rfl⟩ (Nat.le_of_ble_eq_true rfl) dX6_ways_1 rfl (fun x1 hf => ?_)
  refine q_gIN (host := "TwinRows") hf rfl (by decide) w9_X6_ways_X1 (by decide +kernel) dX6_ways_4 (fun x2 hf => ?_)
  exact pw_iret (x := x2) rfl rfl dX6_ways_7 (ret_iw hf)
/-! X6_at -/
abbrev m_X6_at : MD := (cX6_at, RX6, "at", wsX6_at, 2, (some .int))
theorem w9_X6_at_X6 : ∀ w ∈ u_ws RX6 TX6 14, w ∈ wsX6_at := by decide +kernel
theorem hd9_X6_at : yX6_at.cls = RX6 ∧ yX6_at.cls ≠ "java/lang/invoke/MethodHandle" ∧ yX6_at.cls ≠ "java/lang/invoke/VarHandle" ∧ (parseMethodDescriptor yX6_at.desc).map (fun d => d.parameters.length) = some 1 := by decide +kernel
def f_X6_at (h : Hp) (a0 : Nat) (a1 : Int32) : Option Int32 := (gR h a0 6 12).bind fun x1 => if oK h x1 4 = true then (f_X4_numberAt h x1 a1).bind fun x2 => some (x2) else none
set_option maxHeartbeats 4000000 in
set_option maxRecDepth 100000 in
theorem t_X6_at {g : GT} {l : Launch} {h : Hp} {a0 : Nat} {a1 : Int32} {r : Int32} (hf : f_X6_at h a0 a1 = some r) : PM g l 2 0 0 yX6_at wsX6_at [.ref a0, .int a1] h (fun r9 h9 => r9 = some (.int r) ∧ h9 = h) := by
  refine pm_of (M := m_X6_at) (by decide) rfl rfl rfl (Nat.le_of_ble_eq_true rfl) (lo := [some (.ref a0), some (.int a1)]) rfl ?_
  rw [f_X6_at] at hf
  refine pw_aload_n dX6_at_0 rfl ?_
  refine q_gR hf rfl (by decide) w9_X6_at_X6 (by decide +kernel) dX6_at_1 (fun x1 hf => ?_)
  refine pw_iload_n dX6_at_4 rfl ?_
  refine q_callV_i (kc2 := 0) (ks2 := 0) (as := [.int a1]) (rest := []) hf (fun x9 e9 => t_X4_numberAt e9) gX6_at_X4_numberAt rfl hd9_X4_numberAt rfl rfl ⟨(by decide), by decide⟩ ⟨rfl, rfl⟩ (Nat.le_of_ble_eq_true rfl) dX6_at_5 rfl (fun x2 hf => ?_)
  exact pw_iret (x := x2) rfl rfl dX6_at_8 ⟨congrArg (fun z => some (Value.int z)) (Option.some.inj hf), rfl⟩
/-! X6_first -/
abbrev m_X6_first : MD := (cX6_first, RX6, "first", wsX6_first, 2, (some .int))
theorem w9_X6_first_X6 : ∀ w ∈ u_ws RX6 TX6 14, w ∈ wsX6_first := by decide +kernel
theorem hd9_X6_first : yX6_first.cls = RX6 ∧ yX6_first.cls ≠ "java/lang/invoke/MethodHandle" ∧ yX6_first.cls ≠ "java/lang/invoke/VarHandle" ∧ (parseMethodDescriptor yX6_first.desc).map (fun d => d.parameters.length) = some 1 := by decide +kernel
def f_X6_first (h : Hp) (a0 : Nat) (a1 : Int32) : Option Int32 := (gR h a0 6 12).bind fun x1 => if oK h x1 4 = true then (f_X4_firstOf h x1 a1).bind fun x2 => some (x2) else none
set_option maxHeartbeats 4000000 in
set_option maxRecDepth 100000 in
theorem t_X6_first {g : GT} {l : Launch} {h : Hp} {a0 : Nat} {a1 : Int32} {r : Int32} (hf : f_X6_first h a0 a1 = some r) : PM g l 2 0 0 yX6_first wsX6_first [.ref a0, .int a1] h (fun r9 h9 => r9 = some (.int r) ∧ h9 = h) := by
  refine pm_of (M := m_X6_first) (by decide) rfl rfl rfl (Nat.le_of_ble_eq_true rfl) (lo := [some (.ref a0), some (.int a1)]) rfl ?_
  rw [f_X6_first] at hf
  refine pw_aload_n dX6_first_0 rfl ?_
  refine q_gR hf rfl (by decide) w9_X6_first_X6 (by decide +kernel) dX6_first_1 (fun x1 hf => ?_)
  refine pw_iload_n dX6_first_4 rfl ?_
  refine q_callV_i (kc2 := 0) (ks2 := 0) (as := [.int a1]) (rest := []) hf (fun x9 e9 => t_X4_firstOf e9) gX6_first_X4_firstOf rfl hd9_X4_firstOf rfl rfl ⟨(by decide), by decide⟩ ⟨rfl, rfl⟩ (Nat.le_of_ble_eq_true rfl) dX6_first_5 rfl (fun x2 hf => ?_)
  exact pw_iret (x := x2) rfl rfl dX6_first_8 ⟨congrArg (fun z => some (Value.int z)) (Option.some.inj hf), rfl⟩
/-! X6_lookAtTold -/
abbrev m_X6_lookAtTold : MD := (cX6_lookAtTold, RX6, "lookAtTold", wsX6_lookAtTold, 2, (some .int))
theorem w9_X6_lookAtTold_X2 : ∀ w ∈ u_ws RX2 TX2 4, w ∈ wsX6_lookAtTold := by decide +kernel
theorem w9_X6_lookAtTold_X6 : ∀ w ∈ u_ws RX6 TX6 14, w ∈ wsX6_lookAtTold := by decide +kernel
theorem hd9_X6_lookAtTold : yX6_lookAtTold.cls = RX6 ∧ yX6_lookAtTold.cls ≠ "java/lang/invoke/MethodHandle" ∧ yX6_lookAtTold.cls ≠ "java/lang/invoke/VarHandle" ∧ (parseMethodDescriptor yX6_lookAtTold.desc).map (fun d => d.parameters.length) = some 0 := by decide +kernel
def f_X6_lookAtTold (h : Hp) (a0 : Nat) : Option (Int32 × Hp) := if oK h a0 6 = true then (f_X6_counted h a0).bind fun x1 => (gR x1.2 a0 6 13).bind fun x2 => if oK x1.2 x1.1 1 = true then (f_X1_rankOf x1.2 x1.1 x2).bind fun x3 => if x3 = (-1 : Int32) then (some ((x3, x1.2))) else ((gR x1.2 a0 6 12).bind fun x4 => (gR x1.2 a0 6 13).bind fun x5 => (gR x1.2 a0 6 4).bind fun x6 => (gI x1.2 x6 2 0).bind fun x7 => if oK x1.2 x4 4 = true then (f_X4_take x1.2 x4 x5 x7).bind fun h8 => some ((x3, h8)) else none) else none else none
set_option maxHeartbeats 4000000 in
set_option maxRecDepth 100000 in
theorem t_X6_lookAtTold {g : GT} {l : Launch} {h : Hp} {a0 : Nat} {r : (Int32 × Hp)} (hf : f_X6_lookAtTold h a0 = some r) : PM g l 43 0 0 yX6_lookAtTold wsX6_lookAtTold [.ref a0] h (fun r9 h9 => r9 = some (.int r.1) ∧ h9 = r.2) := by
  refine pm_of (M := m_X6_lookAtTold) (by decide) rfl rfl rfl (Nat.le_of_ble_eq_true rfl) (lo := [some (.ref a0), none]) rfl ?_
  rw [f_X6_lookAtTold] at hf
  refine pw_aload_n dX6_lookAtTold_0 rfl ?_
  refine q_callV_aw (kc2 := 0) (ks2 := 0) (as := []) (rest := []) hf (fun x9 e9 => t_X6_counted e9) gX6_lookAtTold_X6_counted rfl hd9_X6_counted rfl rfl ⟨(by decide), by decide⟩ ⟨rfl, rfl⟩ (Nat.le_of_ble_eq_true rfl) dX6_lookAtTold_1 rfl (fun x1 hf => ?_)
  refine pw_aload_n dX6_lookAtTold_4 rfl ?_
  refine q_gR hf rfl (by decide) w9_X6_lookAtTold_X6 (by decide +kernel) dX6_lookAtTold_5 (fun x2 hf => ?_)
  refine q_callV_i (kc2 := 0) (ks2 := 0) (as := [.ref x2]) (rest := []) hf (fun x9 e9 => t_X1_rankOf e9) gX6_lookAtTold_X1_rankOf rfl hd9_X1_rankOf rfl rfl ⟨(by decide), by decide⟩ ⟨rfl, rfl⟩ (Nat.le_of_ble_eq_true rfl) dX6_lookAtTold_8 rfl (fun x3 hf => ?_)
  refine pw_istore_n dX6_lookAtTold_11 (by decide) rfl ?_
  dsimp only [lset, lset2, clr]
  refine pw_iload_n dX6_lookAtTold_12 rfl ?_
  refine pw_iconst (v := (-1)) dX6_lookAtTold_13 (by decide) ?_
  refine q_icmp_eq (tgt := 35) hf dX6_lookAtTold_14 (by decide) (fun hf _ => ?_) (fun hf _ => ?_)
  · refine pw_iload_n dX6_lookAtTold_35 rfl ?_
    exact pw_iret (x := x3) rfl rfl dX6_lookAtTold_36 (ret_iw hf)
  · refine pw_aload_n dX6_lookAtTold_17 rfl ?_
    refine q_gR hf rfl (by decide) w9_X6_lookAtTold_X6 (by decide +kernel) dX6_lookAtTold_18 (fun x4 hf => ?_)
    refine pw_aload_n dX6_lookAtTold_21 rfl ?_
    refine q_gR hf rfl (by decide) w9_X6_lookAtTold_X6 (by decide +kernel) dX6_lookAtTold_22 (fun x5 hf => ?_)
    refine pw_aload_n dX6_lookAtTold_25 rfl ?_
    refine q_gR hf rfl (by decide) w9_X6_lookAtTold_X6 (by decide +kernel) dX6_lookAtTold_26 (fun x6 hf => ?_)
    refine q_gIN (host := "TwinRows") hf rfl (by decide) w9_X6_lookAtTold_X2 (by decide +kernel) dX6_lookAtTold_29 (fun x7 hf => ?_)
    refine q_callV_v (kc2 := 0) (ks2 := 0) (as := [.ref x5, .int x7]) (rest := []) hf (fun x9 e9 => t_X4_take e9) gX6_lookAtTold_X4_take rfl hd9_X4_take rfl rfl ⟨(by decide), by decide⟩ ⟨rfl, rfl⟩ (Nat.le_of_ble_eq_true rfl) dX6_lookAtTold_32 rfl (fun h8 hf => ?_)
    refine pw_iload_n dX6_lookAtTold_35 rfl ?_
    exact pw_iret (x := x3) rfl rfl dX6_lookAtTold_36 (ret_iw hf)
/-! X6_rank -/
abbrev m_X6_rank : MD := (cX6_rank, RX6, "rank", wsX6_rank, 3, (some .int))
theorem w9_X6_rank_X2 : ∀ w ∈ u_ws RX2 TX2 4, w ∈ wsX6_rank := by decide +kernel
theorem w9_X6_rank_X6 : ∀ w ∈ u_ws RX6 TX6 14, w ∈ wsX6_rank := by decide +kernel
theorem hd9_X6_rank : yX6_rank.cls = RX6 ∧ yX6_rank.cls ≠ "java/lang/invoke/MethodHandle" ∧ yX6_rank.cls ≠ "java/lang/invoke/VarHandle" ∧ (parseMethodDescriptor yX6_rank.desc).map (fun d => d.parameters.length) = some 0 := by decide +kernel
def f_X6_rank_25 : Nat → Nat → Int32 → Int32 → Hp → Option (Int32 × Hp)
  | 0, _, _, _, _ => none
  | n + 1, v0, v1, v2, h => if v1 < v2 then (if oK h v0 6 = true then (f_X6_lookAtTold h v0).bind fun x1 => some ((x1.1, x1.2)) else none) else (if (18 : Int32) < v2 then (if oK h v0 6 = true then (f_X6_lookAtTold h v0).bind fun x2 => some ((x2.1, x2.2)) else none) else ((gR h v0 6 13).bind fun x3 => (gR h v0 6 0).bind fun x4 => (aI h 1 x4 (v2 - (1 : Int32))).bind fun x5 => (sI h 0 x3 v2 (x5 &&& (255 : Int32))).bind fun h6 => f_X6_rank_25 n v0 v1 (v2 + (1)) h6))
set_option maxHeartbeats 4000000 in
set_option maxRecDepth 100000 in
theorem w_X6_rank_25 {g : GT} {l : Launch} {r : (Int32 × Hp)} : ∀ (n : Nat) (v0 : Nat) (v1 : Int32) (v2 : Int32) (h : Hp), f_X6_rank_25 n v0 v1 v2 h = some r → PW g l m_X6_rank 44 0 0 25 [some (.ref v0), some (.int v1), some (.int v2)] [] h (fun r9 h9 => r9 = some (.int r.1) ∧ h9 = r.2) := by
  intro n
  induction n with
  | zero => intro v0 v1 v2 h hf; cases hf
  | succ n ih =>
    intro v0 v1 v2 h hf
    rw [f_X6_rank_25] at hf
    refine pw_iload_n dX6_rank_25 rfl ?_
    refine pw_iload_n dX6_rank_26 rfl ?_
    refine q_icmp_gt (tgt := 60) hf dX6_rank_27 (by decide) (fun hf _ => ?_) (fun hf _ => ?_)
    · refine pw_aload_n dX6_rank_60 rfl ?_
      refine q_callV_iw (kc2 := 0) (ks2 := 0) (as := []) (rest := []) hf (fun x9 e9 => t_X6_lookAtTold e9) gX6_rank_X6_lookAtTold rfl hd9_X6_lookAtTold rfl rfl ⟨(by decide), by decide⟩ ⟨rfl, rfl⟩ (Nat.le_of_ble_eq_true rfl) dX6_rank_61 rfl (fun x1 hf => ?_)
      exact pw_iret (x := x1.1) rfl rfl dX6_rank_64 (ret_iw hf)
    · refine pw_iload_n dX6_rank_30 rfl ?_
      refine pw_bipush (v := (18)) dX6_rank_31 (by decide) ?_
      refine q_icmp_gt (tgt := 60) hf dX6_rank_33 (by decide) (fun hf _ => ?_) (fun hf _ => ?_)
      · refine pw_aload_n dX6_rank_60 rfl ?_
        refine q_callV_iw (kc2 := 0) (ks2 := 0) (as := []) (rest := []) hf (fun x9 e9 => t_X6_lookAtTold e9) gX6_rank_X6_lookAtTold rfl hd9_X6_lookAtTold rfl rfl ⟨(by decide), by decide⟩ ⟨rfl, rfl⟩ (Nat.le_of_ble_eq_true rfl) dX6_rank_61 rfl (fun x2 hf => ?_)
        exact pw_iret (x := x2.1) rfl rfl dX6_rank_64 (ret_iw hf)
      · refine pw_aload_n dX6_rank_36 rfl ?_
        refine q_gR hf rfl (by decide) w9_X6_rank_X6 (by decide +kernel) dX6_rank_37 (fun x3 hf => ?_)
        refine pw_iload_n dX6_rank_40 rfl ?_
        refine pw_aload_n dX6_rank_41 rfl ?_
        refine q_gR hf rfl (by decide) w9_X6_rank_X6 (by decide +kernel) dX6_rank_42 (fun x4 hf => ?_)
        refine pw_iload_n dX6_rank_45 rfl ?_
        refine pw_iconst (v := (1)) dX6_rank_46 (by decide) ?_
        refine pw_isub dX6_rank_47 ?_
        refine q_bald hf dX6_rank_48 (fun x5 hf => ?_)
        refine pw_sipush (v := (255)) dX6_rank_49 (by decide) ?_
        refine pw_iand dX6_rank_52 ?_
        refine q_iast hf dX6_rank_53 (fun h6 hf => ?_)
        refine pw_iinc (v := v2 + (1)) dX6_rank_54 rfl rfl (by decide) rfl ?_
        dsimp only [lset, lset2, clr]
        refine pw_goto (tgt := 25) dX6_rank_57 (by decide) ?_
        exact pw_lo (lle_s rfl (lle_s rfl (lle_s rfl lle_0))) (ih _ _ _ _ hf)
def f_X6_rank (h : Hp) (a0 : Nat) : Option (Int32 × Hp) := (gI h a0 6 1).bind fun x1 => (pV h a0 6 1 (.int (0 : Int32))).bind fun h2 => (gR h2 a0 6 4).bind fun x3 => (gI h2 x3 2 0).bind fun x4 => if x1 = x4 then (f_X6_rank_25 4096 a0 x1 (1 : Int32) h2) else (some (((-1 : Int32), h2)))
set_option maxHeartbeats 4000000 in
set_option maxRecDepth 100000 in
theorem t_X6_rank {g : GT} {l : Launch} {h : Hp} {a0 : Nat} {r : (Int32 × Hp)} (hf : f_X6_rank h a0 = some r) : PM g l 44 0 0 yX6_rank wsX6_rank [.ref a0] h (fun r9 h9 => r9 = some (.int r.1) ∧ h9 = r.2) := by
  refine pm_of (M := m_X6_rank) (by decide) rfl rfl rfl (Nat.le_of_ble_eq_true rfl) (lo := [some (.ref a0), none, none]) rfl ?_
  rw [f_X6_rank] at hf
  refine pw_aload_n dX6_rank_0 rfl ?_
  refine q_gI hf rfl (by decide) w9_X6_rank_X6 (by decide +kernel) dX6_rank_1 (fun x1 hf => ?_)
  refine pw_istore_n dX6_rank_4 (by decide) rfl ?_
  dsimp only [lset, lset2, clr]
  refine pw_aload_n dX6_rank_5 rfl ?_
  refine pw_iconst (v := (0)) dX6_rank_6 (by decide) ?_
  refine q_pV (ty := .int) hf tyX6 tyX6_ok nmX6 rfl (by decide) w9_X6_rank_X6 (by decide +kernel) rfl (by decide +kernel) rfl rfl dX6_rank_7 (fun h2 hf => ?_)
  refine pw_iload_n dX6_rank_10 rfl ?_
  refine pw_aload_n dX6_rank_11 rfl ?_
  refine q_gR hf rfl (by decide) w9_X6_rank_X6 (by decide +kernel) dX6_rank_12 (fun x3 hf => ?_)
  refine q_gIN (host := "TwinRows") hf rfl (by decide) w9_X6_rank_X2 (by decide +kernel) dX6_rank_15 (fun x4 hf => ?_)
  refine q_icmp_eq (tgt := 23) hf dX6_rank_18 (by decide) (fun hf _ => ?_) (fun hf _ => ?_)
  · refine pw_iconst (v := (1)) dX6_rank_23 (by decide) ?_
    refine pw_istore_n dX6_rank_24 (by decide) rfl ?_
    dsimp only [lset, lset2, clr]
    exact pw_lo (lle_s rfl (lle_s rfl (lle_s rfl lle_0))) (w_X6_rank_25 4096 _ _ _ _ hf)
  · refine pw_iconst (v := (-1)) dX6_rank_21 (by decide) ?_
    exact pw_iret (x := (-1 : Int32)) rfl rfl dX6_rank_22 (ret_iw hf)
/-! X6_behind -/
abbrev m_X6_behind : MD := (cX6_behind, RX6, "behind", wsX6_behind, 3, (some .int))
theorem w9_X6_behind_X2 : ∀ w ∈ u_ws RX2 TX2 4, w ∈ wsX6_behind := by decide +kernel
theorem w9_X6_behind_X4 : ∀ w ∈ u_ws RX4 TX4 3, w ∈ wsX6_behind := by decide +kernel
theorem w9_X6_behind_X6 : ∀ w ∈ u_ws RX6 TX6 14, w ∈ wsX6_behind := by decide +kernel
theorem hd9_X6_behind : yX6_behind.cls = RX6 ∧ yX6_behind.cls ≠ "java/lang/invoke/MethodHandle" ∧ yX6_behind.cls ≠ "java/lang/invoke/VarHandle" ∧ (parseMethodDescriptor yX6_behind.desc).map (fun d => d.parameters.length) = some 0 := by decide +kernel
def f_X6_behind_23 : Nat → Nat → Int32 → Int32 → Hp → Option (Int32 × Hp)
  | 0, _, _, _, _ => none
  | n + 1, v0, v1, v2, h => if v1 < v2 then (if oK h v0 6 = true then (f_X6_lookAtTold h v0).bind fun x1 => some ((x1.1, x1.2)) else none) else (if (18 : Int32) < v2 then (if oK h v0 6 = true then (f_X6_lookAtTold h v0).bind fun x2 => some ((x2.1, x2.2)) else none) else ((gR h v0 6 13).bind fun x3 => (gR h v0 6 12).bind fun x4 => if oK h x4 4 = true then (f_X4_numberAt h x4 ((v1 + (1 : Int32)) - v2)).bind fun x5 => (sI h 0 x3 v2 x5).bind fun h6 => f_X6_behind_23 n v0 v1 (v2 + (1)) h6 else none))
set_option maxHeartbeats 4000000 in
set_option maxRecDepth 100000 in
theorem w_X6_behind_23 {g : GT} {l : Launch} {r : (Int32 × Hp)} : ∀ (n : Nat) (v0 : Nat) (v1 : Int32) (v2 : Int32) (h : Hp), f_X6_behind_23 n v0 v1 v2 h = some r → PW g l m_X6_behind 44 0 0 23 [some (.ref v0), some (.int v1), some (.int v2)] [] h (fun r9 h9 => r9 = some (.int r.1) ∧ h9 = r.2) := by
  intro n
  induction n with
  | zero => intro v0 v1 v2 h hf; cases hf
  | succ n ih =>
    intro v0 v1 v2 h hf
    rw [f_X6_behind_23] at hf
    refine pw_iload_n dX6_behind_23 rfl ?_
    refine pw_iload_n dX6_behind_24 rfl ?_
    refine q_icmp_gt (tgt := 58) hf dX6_behind_25 (by decide) (fun hf _ => ?_) (fun hf _ => ?_)
    · refine pw_aload_n dX6_behind_58 rfl ?_
      refine q_callV_iw (kc2 := 0) (ks2 := 0) (as := []) (rest := []) hf (fun x9 e9 => t_X6_lookAtTold e9) gX6_behind_X6_lookAtTold rfl hd9_X6_lookAtTold rfl rfl ⟨(by decide), by decide⟩ ⟨rfl, rfl⟩ (Nat.le_of_ble_eq_true rfl) dX6_behind_59 rfl (fun x1 hf => ?_)
      exact pw_iret (x := x1.1) rfl rfl dX6_behind_62 (ret_iw hf)
    · refine pw_iload_n dX6_behind_28 rfl ?_
      refine pw_bipush (v := (18)) dX6_behind_29 (by decide) ?_
      refine q_icmp_gt (tgt := 58) hf dX6_behind_31 (by decide) (fun hf _ => ?_) (fun hf _ => ?_)
      · refine pw_aload_n dX6_behind_58 rfl ?_
        refine q_callV_iw (kc2 := 0) (ks2 := 0) (as := []) (rest := []) hf (fun x9 e9 => t_X6_lookAtTold e9) gX6_behind_X6_lookAtTold rfl hd9_X6_lookAtTold rfl rfl ⟨(by decide), by decide⟩ ⟨rfl, rfl⟩ (Nat.le_of_ble_eq_true rfl) dX6_behind_59 rfl (fun x2 hf => ?_)
        exact pw_iret (x := x2.1) rfl rfl dX6_behind_62 (ret_iw hf)
      · refine pw_aload_n dX6_behind_34 rfl ?_
        refine q_gR hf rfl (by decide) w9_X6_behind_X6 (by decide +kernel) dX6_behind_35 (fun x3 hf => ?_)
        refine pw_iload_n dX6_behind_38 rfl ?_
        refine pw_aload_n dX6_behind_39 rfl ?_
        refine q_gR hf rfl (by decide) w9_X6_behind_X6 (by decide +kernel) dX6_behind_40 (fun x4 hf => ?_)
        refine pw_iload_n dX6_behind_43 rfl ?_
        refine pw_iconst (v := (1)) dX6_behind_44 (by decide) ?_
        refine pw_iadd dX6_behind_45 ?_
        refine pw_iload_n dX6_behind_46 rfl ?_
        refine pw_isub dX6_behind_47 ?_
        refine q_callV_i (kc2 := 0) (ks2 := 0) (as := [.int ((v1 + (1 : Int32)) - v2)]) (rest := [.int v2, .ref x3]) hf (fun x9 e9 => t_X4_numberAt e9) gX6_behind_X4_numberAt rfl hd9_X4_numberAt rfl rfl ⟨(by decide), by decide⟩ ⟨rfl, rfl⟩ (Nat.le_of_ble_eq_true rfl) dX6_behind_48 rfl (fun x5 hf => ?_)
        refine q_iast hf dX6_behind_51 (fun h6 hf => ?_)
        refine pw_iinc (v := v2 + (1)) dX6_behind_52 rfl rfl (by decide) rfl ?_
        dsimp only [lset, lset2, clr]
        refine pw_goto (tgt := 23) dX6_behind_55 (by decide) ?_
        exact pw_lo (lle_s rfl (lle_s rfl (lle_s rfl lle_0))) (ih _ _ _ _ hf)
def f_X6_behind (h : Hp) (a0 : Nat) : Option (Int32 × Hp) := (gR h a0 6 12).bind fun x1 => (gI h x1 4 2).bind fun x2 => (gR h a0 6 4).bind fun x3 => (gI h x3 2 0).bind fun x4 => if x2 = x4 then (f_X6_behind_23 4096 a0 x2 (1 : Int32) h) else (some (((-1 : Int32), h)))
set_option maxHeartbeats 4000000 in
set_option maxRecDepth 100000 in
theorem t_X6_behind {g : GT} {l : Launch} {h : Hp} {a0 : Nat} {r : (Int32 × Hp)} (hf : f_X6_behind h a0 = some r) : PM g l 44 0 0 yX6_behind wsX6_behind [.ref a0] h (fun r9 h9 => r9 = some (.int r.1) ∧ h9 = r.2) := by
  refine pm_of (M := m_X6_behind) (by decide) rfl rfl rfl (Nat.le_of_ble_eq_true rfl) (lo := [some (.ref a0), none, none]) rfl ?_
  rw [f_X6_behind] at hf
  refine pw_aload_n dX6_behind_0 rfl ?_
  refine q_gR hf rfl (by decide) w9_X6_behind_X6 (by decide +kernel) dX6_behind_1 (fun x1 hf => ?_)
  refine q_gIN (host := "TwinRows") hf rfl (by decide) w9_X6_behind_X4 (by decide +kernel) dX6_behind_4 (fun x2 hf => ?_)
  refine pw_istore_n dX6_behind_7 (by decide) rfl ?_
  dsimp only [lset, lset2, clr]
  refine pw_iload_n dX6_behind_8 rfl ?_
  refine pw_aload_n dX6_behind_9 rfl ?_
  refine q_gR hf rfl (by decide) w9_X6_behind_X6 (by decide +kernel) dX6_behind_10 (fun x3 hf => ?_)
  refine q_gIN (host := "TwinRows") hf rfl (by decide) w9_X6_behind_X2 (by decide +kernel) dX6_behind_13 (fun x4 hf => ?_)
  refine q_icmp_eq (tgt := 21) hf dX6_behind_16 (by decide) (fun hf _ => ?_) (fun hf _ => ?_)
  · refine pw_iconst (v := (1)) dX6_behind_21 (by decide) ?_
    refine pw_istore_n dX6_behind_22 (by decide) rfl ?_
    dsimp only [lset, lset2, clr]
    exact pw_lo (lle_s rfl (lle_s rfl (lle_s rfl lle_0))) (w_X6_behind_23 4096 _ _ _ _ hf)
  · refine pw_iconst (v := (-1)) dX6_behind_19 (by decide) ?_
    exact pw_iret (x := (-1 : Int32)) rfl rfl dX6_behind_20 (ret_iw hf)
/-! X6_standing -/
abbrev m_X6_standing : MD := (cX6_standing, RX6, "standing", wsX6_standing, 3, (some .int))
theorem w9_X6_standing_X1 : ∀ w ∈ u_ws RX1 TX1 8, w ∈ wsX6_standing := by decide +kernel
theorem w9_X6_standing_X6 : ∀ w ∈ u_ws RX6 TX6 14, w ∈ wsX6_standing := by decide +kernel
theorem hd9_X6_standing : yX6_standing.cls = RX6 ∧ yX6_standing.cls ≠ "java/lang/invoke/MethodHandle" ∧ yX6_standing.cls ≠ "java/lang/invoke/VarHandle" ∧ (parseMethodDescriptor yX6_standing.desc).map (fun d => d.parameters.length) = some 2 := by decide +kernel
def f_X6_standing (h : Hp) (a0 : Nat) (a1 : Int32) (a2 : Int32) : Option (Int32 × Hp) := (gR h a0 6 4).bind fun x1 => if oK h x1 2 = true then (f_X2_hasPair h x1 a1).bind fun x2 => if x2 = 0 then (some (((-1 : Int32), h))) else ((gR h a0 6 4).bind fun x3 => if oK h x3 2 = true then (f_X2_hasPlace h x3 a2).bind fun x4 => if x4 = 0 then (some (((-1 : Int32), h))) else (if oK h a0 6 = true then (f_X6_counted h a0).bind fun x5 => (gR x5.2 x5.1 1 4).bind fun x6 => (aR x5.2 5 x6 a1).bind fun x7 => (aI x5.2 0 x7 a2).bind fun x8 => some ((x8, x5.2)) else none) else none) else none
set_option maxHeartbeats 4000000 in
set_option maxRecDepth 100000 in
theorem t_X6_standing {g : GT} {l : Launch} {h : Hp} {a0 : Nat} {a1 : Int32} {a2 : Int32} {r : (Int32 × Hp)} (hf : f_X6_standing h a0 a1 a2 = some r) : PM g l 43 0 0 yX6_standing wsX6_standing [.ref a0, .int a1, .int a2] h (fun r9 h9 => r9 = some (.int r.1) ∧ h9 = r.2) := by
  refine pm_of (M := m_X6_standing) (by decide) rfl rfl rfl (Nat.le_of_ble_eq_true rfl) (lo := [some (.ref a0), some (.int a1), some (.int a2)]) rfl ?_
  rw [f_X6_standing] at hf
  refine pw_aload_n dX6_standing_0 rfl ?_
  refine q_gR hf rfl (by decide) w9_X6_standing_X6 (by decide +kernel) dX6_standing_1 (fun x1 hf => ?_)
  refine pw_iload_n dX6_standing_4 rfl ?_
  refine q_callV_i (kc2 := 0) (ks2 := 0) (as := [.int a1]) (rest := []) hf (fun x9 e9 => t_X2_hasPair e9) gX6_standing_X2_hasPair rfl hd9_X2_hasPair rfl rfl ⟨(by decide), by decide⟩ ⟨rfl, rfl⟩ (Nat.le_of_ble_eq_true rfl) dX6_standing_5 rfl (fun x2 hf => ?_)
  refine q_if_eq (tgt := 36) hf dX6_standing_8 (by decide) (fun hf _ => ?_) (fun hf _ => ?_)
  · refine pw_iconst (v := (-1)) dX6_standing_36 (by decide) ?_
    exact pw_iret (x := (-1 : Int32)) rfl rfl dX6_standing_37 (ret_iw hf)
  · refine pw_aload_n dX6_standing_11 rfl ?_
    refine q_gR hf rfl (by decide) w9_X6_standing_X6 (by decide +kernel) dX6_standing_12 (fun x3 hf => ?_)
    refine pw_iload_n dX6_standing_15 rfl ?_
    refine q_callV_i (kc2 := 0) (ks2 := 0) (as := [.int a2]) (rest := []) hf (fun x9 e9 => t_X2_hasPlace e9) gX6_standing_X2_hasPlace rfl hd9_X2_hasPlace rfl rfl ⟨(by decide), by decide⟩ ⟨rfl, rfl⟩ (Nat.le_of_ble_eq_true rfl) dX6_standing_16 rfl (fun x4 hf => ?_)
    refine q_if_eq (tgt := 36) hf dX6_standing_19 (by decide) (fun hf _ => ?_) (fun hf _ => ?_)
    · refine pw_iconst (v := (-1)) dX6_standing_36 (by decide) ?_
      exact pw_iret (x := (-1 : Int32)) rfl rfl dX6_standing_37 (ret_iw hf)
    · refine pw_aload_n dX6_standing_22 rfl ?_
      refine q_callV_aw (kc2 := 0) (ks2 := 0) (as := []) (rest := []) hf (fun x9 e9 => t_X6_counted e9) gX6_standing_X6_counted rfl hd9_X6_counted rfl rfl ⟨(by decide), by decide⟩ ⟨rfl, rfl⟩ (Nat.le_of_ble_eq_true rfl) dX6_standing_23 rfl (fun x5 hf => ?_)
      refine q_gRN (host := "TwinRows") hf rfl (by decide) w9_X6_standing_X1 (by decide +kernel) dX6_standing_26 (fun x6 hf => ?_)
      refine pw_iload_n dX6_standing_29 rfl ?_
      refine q_aald hf (by decide) rfl dX6_standing_30 (fun x7 hf => ?_)
      refine pw_iload_n dX6_standing_31 rfl ?_
      refine q_iald hf dX6_standing_32 (fun x8 hf => ?_)
      refine pw_goto (tgt := 37) dX6_standing_33 (by decide) ?_
      exact pw_iret (x := x8) rfl rfl dX6_standing_37 (ret_iw hf)
/-! X6_may -/
abbrev m_X6_may : MD := (cX6_may, RX6, "may", wsX6_may, 2, (some .int))
theorem w9_X6_may_X6 : ∀ w ∈ u_ws RX6 TX6 14, w ∈ wsX6_may := by decide +kernel
theorem hd9_X6_may : yX6_may.cls = RX6 ∧ yX6_may.cls ≠ "java/lang/invoke/MethodHandle" ∧ yX6_may.cls ≠ "java/lang/invoke/VarHandle" ∧ (parseMethodDescriptor yX6_may.desc).map (fun d => d.parameters.length) = some 1 := by decide +kernel
def f_X6_may (h : Hp) (a0 : Nat) (a1 : Int32) : Option (Int32 × Hp) := (gR h a0 6 4).bind fun x1 => if oK h x1 2 = true then (f_X2_hasPair h x1 a1).bind fun x2 => if x2 = 0 then (some (((-1 : Int32), h))) else (if oK h a0 6 = true then (f_X6_counted h a0).bind fun x3 => if oK x3.2 x3.1 1 = true then (f_X1_placesOf x3.2 x3.1 a1).bind fun x4 => some ((x4, x3.2)) else none else none) else none
set_option maxHeartbeats 4000000 in
set_option maxRecDepth 100000 in
theorem t_X6_may {g : GT} {l : Launch} {h : Hp} {a0 : Nat} {a1 : Int32} {r : (Int32 × Hp)} (hf : f_X6_may h a0 a1 = some r) : PM g l 43 0 0 yX6_may wsX6_may [.ref a0, .int a1] h (fun r9 h9 => r9 = some (.int r.1) ∧ h9 = r.2) := by
  refine pm_of (M := m_X6_may) (by decide) rfl rfl rfl (Nat.le_of_ble_eq_true rfl) (lo := [some (.ref a0), some (.int a1)]) rfl ?_
  rw [f_X6_may] at hf
  refine pw_aload_n dX6_may_0 rfl ?_
  refine q_gR hf rfl (by decide) w9_X6_may_X6 (by decide +kernel) dX6_may_1 (fun x1 hf => ?_)
  refine pw_iload_n dX6_may_4 rfl ?_
  refine q_callV_i (kc2 := 0) (ks2 := 0) (as := [.int a1]) (rest := []) hf (fun x9 e9 => t_X2_hasPair e9) gX6_may_X2_hasPair rfl hd9_X2_hasPair rfl rfl ⟨(by decide), by decide⟩ ⟨rfl, rfl⟩ (Nat.le_of_ble_eq_true rfl) dX6_may_5 rfl (fun x2 hf => ?_)
  refine q_if_eq (tgt := 22) hf dX6_may_8 (by decide) (fun hf _ => ?_) (fun hf _ => ?_)
  · refine pw_iconst (v := (-1)) dX6_may_22 (by decide) ?_
    exact pw_iret (x := (-1 : Int32)) rfl rfl dX6_may_23 (ret_iw hf)
  · refine pw_aload_n dX6_may_11 rfl ?_
    refine q_callV_aw (kc2 := 0) (ks2 := 0) (as := []) (rest := []) hf (fun x9 e9 => t_X6_counted e9) gX6_may_X6_counted rfl hd9_X6_counted rfl rfl ⟨(by decide), by decide⟩ ⟨rfl, rfl⟩ (Nat.le_of_ble_eq_true rfl) dX6_may_12 rfl (fun x3 hf => ?_)
    refine pw_iload_n dX6_may_15 rfl ?_
    refine q_callV_i (kc2 := 0) (ks2 := 0) (as := [.int a1]) (rest := []) hf (fun x9 e9 => t_X1_placesOf e9) gX6_may_X1_placesOf rfl hd9_X1_placesOf rfl rfl ⟨(by decide), by decide⟩ ⟨rfl, rfl⟩ (Nat.le_of_ble_eq_true rfl) dX6_may_16 rfl (fun x4 hf => ?_)
    refine pw_goto (tgt := 23) dX6_may_19 (by decide) ?_
    exact pw_iret (x := x4) rfl rfl dX6_may_23 (ret_iw hf)
/-! X6_sure -/
abbrev m_X6_sure : MD := (cX6_sure, RX6, "sure", wsX6_sure, 4, (some .int))
theorem w9_X6_sure_X6 : ∀ w ∈ u_ws RX6 TX6 14, w ∈ wsX6_sure := by decide +kernel
theorem hd9_X6_sure : yX6_sure.cls = RX6 ∧ yX6_sure.cls ≠ "java/lang/invoke/MethodHandle" ∧ yX6_sure.cls ≠ "java/lang/invoke/VarHandle" ∧ (parseMethodDescriptor yX6_sure.desc).map (fun d => d.parameters.length) = some 0 := by decide +kernel
def f_X6_sure_9 : Nat → Nat → Nat → Int32 → Int32 → Hp → Option (Int32 × Hp)
  | 0, _, _, _, _, _ => none
  | n + 1, v0, v1, v2, v3, h => if (15 : Int32) < v3 then (some ((v2, h))) else ((gR h v0 6 4).bind fun x1 => if oK h x1 2 = true then (f_X2_hasPair h x1 v3).bind fun x2 => if x2 = 0 then (f_X6_sure_9 n v0 v1 v2 (v3 + (1)) h) else (if oK h v1 1 = true then (f_X1_isSure h v1 v3).bind fun x3 => if x3 = 0 then (f_X6_sure_9 n v0 v1 v2 (v3 + (1)) h) else ((f_X6_bit h v3).bind fun x4 => f_X6_sure_9 n v0 v1 (v2 ||| x4) (v3 + (1)) h) else none) else none)
set_option maxHeartbeats 4000000 in
set_option maxRecDepth 100000 in
theorem w_X6_sure_9 {g : GT} {l : Launch} {r : (Int32 × Hp)} : ∀ (n : Nat) (v0 : Nat) (v1 : Nat) (v2 : Int32) (v3 : Int32) (h : Hp), f_X6_sure_9 n v0 v1 v2 v3 h = some r → PW g l m_X6_sure 43 0 0 9 [some (.ref v0), some (.ref v1), some (.int v2), some (.int v3)] [] h (fun r9 h9 => r9 = some (.int r.1) ∧ h9 = r.2) := by
  intro n
  induction n with
  | zero => intro v0 v1 v2 v3 h hf; cases hf
  | succ n ih =>
    intro v0 v1 v2 v3 h hf
    rw [f_X6_sure_9] at hf
    refine pw_iload_n dX6_sure_9 rfl ?_
    refine pw_bipush (v := (15)) dX6_sure_10 (by decide) ?_
    refine q_icmp_gt (tgt := 47) hf dX6_sure_12 (by decide) (fun hf _ => ?_) (fun hf _ => ?_)
    · refine pw_iload_n dX6_sure_47 rfl ?_
      exact pw_iret (x := v2) rfl rfl dX6_sure_48 (ret_iw hf)
    · refine pw_aload_n dX6_sure_15 rfl ?_
      refine q_gR hf rfl (by decide) w9_X6_sure_X6 (by decide +kernel) dX6_sure_16 (fun x1 hf => ?_)
      refine pw_iload_n dX6_sure_19 rfl ?_
      refine q_callV_i (kc2 := 0) (ks2 := 0) (as := [.int v3]) (rest := []) hf (fun x9 e9 => t_X2_hasPair e9) gX6_sure_X2_hasPair rfl hd9_X2_hasPair rfl rfl ⟨(by decide), by decide⟩ ⟨rfl, rfl⟩ (Nat.le_of_ble_eq_true rfl) dX6_sure_20 rfl (fun x2 hf => ?_)
      refine q_if_eq (tgt := 41) hf dX6_sure_23 (by decide) (fun hf _ => ?_) (fun hf _ => ?_)
      · refine pw_iinc (v := v3 + (1)) dX6_sure_41 rfl rfl (by decide) rfl ?_
        dsimp only [lset, lset2, clr]
        refine pw_goto (tgt := 9) dX6_sure_44 (by decide) ?_
        exact pw_lo (lle_s rfl (lle_s rfl (lle_s rfl (lle_s rfl lle_0)))) (ih _ _ _ _ _ hf)
      · refine pw_aload_n dX6_sure_26 rfl ?_
        refine pw_iload_n dX6_sure_27 rfl ?_
        refine q_callV_i (kc2 := 0) (ks2 := 0) (as := [.int v3]) (rest := []) hf (fun x9 e9 => t_X1_isSure e9) gX6_sure_X1_isSure rfl hd9_X1_isSure rfl rfl ⟨(by decide), by decide⟩ ⟨rfl, rfl⟩ (Nat.le_of_ble_eq_true rfl) dX6_sure_28 rfl (fun x3 hf => ?_)
        refine q_if_eq (tgt := 41) hf dX6_sure_31 (by decide) (fun hf _ => ?_) (fun hf _ => ?_)
        · refine pw_iinc (v := v3 + (1)) dX6_sure_41 rfl rfl (by decide) rfl ?_
          dsimp only [lset, lset2, clr]
          refine pw_goto (tgt := 9) dX6_sure_44 (by decide) ?_
          exact pw_lo (lle_s rfl (lle_s rfl (lle_s rfl (lle_s rfl lle_0)))) (ih _ _ _ _ _ hf)
        · refine pw_iload_n dX6_sure_34 rfl ?_
          refine pw_iload_n dX6_sure_35 rfl ?_
          refine q_callS_i (kc2 := 0) (ks2 := 0) (as := [.int v3]) (rest := [.int v2]) hf (fun x9 e9 => t_X6_bit e9) gX6_sure_X6_bit rfl hd9_X6_bit rfl ⟨(by decide), by decide⟩ ⟨rfl, rfl⟩ (Nat.le_of_ble_eq_true rfl) dX6_sure_36 rfl (fun x4 hf => ?_)
          refine pw_ior dX6_sure_39 ?_
          refine pw_istore_n dX6_sure_40 (by decide) rfl ?_
          dsimp only [lset, lset2, clr]
          refine pw_iinc (v := v3 + (1)) dX6_sure_41 rfl rfl (by decide) rfl ?_
          dsimp only [lset, lset2, clr]
          refine pw_goto (tgt := 9) dX6_sure_44 (by decide) ?_
          exact pw_lo (lle_s rfl (lle_s rfl (lle_s rfl (lle_s rfl lle_0)))) (ih _ _ _ _ _ hf)
def f_X6_sure (h : Hp) (a0 : Nat) : Option (Int32 × Hp) := if oK h a0 6 = true then (f_X6_counted h a0).bind fun x1 => f_X6_sure_9 4096 a0 x1.1 (0 : Int32) (1 : Int32) x1.2 else none
set_option maxHeartbeats 4000000 in
set_option maxRecDepth 100000 in
theorem t_X6_sure {g : GT} {l : Launch} {h : Hp} {a0 : Nat} {r : (Int32 × Hp)} (hf : f_X6_sure h a0 = some r) : PM g l 43 0 0 yX6_sure wsX6_sure [.ref a0] h (fun r9 h9 => r9 = some (.int r.1) ∧ h9 = r.2) := by
  refine pm_of (M := m_X6_sure) (by decide) rfl rfl rfl (Nat.le_of_ble_eq_true rfl) (lo := [some (.ref a0), none, none, none]) rfl ?_
  rw [f_X6_sure] at hf
  refine pw_aload_n dX6_sure_0 rfl ?_
  refine q_callV_aw (kc2 := 0) (ks2 := 0) (as := []) (rest := []) hf (fun x9 e9 => t_X6_counted e9) gX6_sure_X6_counted rfl hd9_X6_counted rfl rfl ⟨(by decide), by decide⟩ ⟨rfl, rfl⟩ (Nat.le_of_ble_eq_true rfl) dX6_sure_1 rfl (fun x1 hf => ?_)
  refine pw_astore_n dX6_sure_4 (by decide) rfl ?_
  dsimp only [lset, lset2, clr]
  refine pw_iconst (v := (0)) dX6_sure_5 (by decide) ?_
  refine pw_istore_n dX6_sure_6 (by decide) rfl ?_
  dsimp only [lset, lset2, clr]
  refine pw_iconst (v := (1)) dX6_sure_7 (by decide) ?_
  refine pw_istore_n dX6_sure_8 (by decide) rfl ?_
  dsimp only [lset, lset2, clr]
  exact pw_lo (lle_s rfl (lle_s rfl (lle_s rfl (lle_s rfl lle_0)))) (w_X6_sure_9 4096 _ _ _ _ _ hf)
/-! X6_extended -/
abbrev m_X6_extended : MD := (cX6_extended, RX6, "extended", wsX6_extended, 3, (some .int))
theorem w9_X6_extended_X1 : ∀ w ∈ u_ws RX1 TX1 8, w ∈ wsX6_extended := by decide +kernel
theorem w9_X6_extended_X6 : ∀ w ∈ u_ws RX6 TX6 14, w ∈ wsX6_extended := by decide +kernel
theorem hd9_X6_extended : yX6_extended.cls = RX6 ∧ yX6_extended.cls ≠ "java/lang/invoke/MethodHandle" ∧ yX6_extended.cls ≠ "java/lang/invoke/VarHandle" ∧ (parseMethodDescriptor yX6_extended.desc).map (fun d => d.parameters.length) = some 2 := by decide +kernel
def f_X6_extended (h : Hp) (a0 : Nat) (a1 : Int32) (a2 : Int32) : Option (Int32 × Hp) := if a1 < (1 : Int32) then (some (((-1 : Int32), h))) else (if (7 : Int32) < a1 then (some (((-1 : Int32), h))) else (if a2 < (1 : Int32) then (some (((-1 : Int32), h))) else (if a2 ≤ (((2 : Int32) * a1) + (1 : Int32)) then ((gR h a0 6 10).bind fun x1 => (f_X6_bit h a2).bind fun x2 => if oK h x1 2 = true then (f_X2_begin h x1 (((2 : Int32) * a1) + (1 : Int32)) x2 (((1 : Int32) <<< (a1 &&& 31)) - (1 : Int32))).bind fun h3 => (gR h3 a0 6 11).bind fun x4 => (gR h3 a0 6 10).bind fun x5 => if oK h3 x4 1 = true then (f_X1_countAll h3 x4 x5).bind fun h6 => (gR h6 a0 6 11).bind fun x7 => (gI h6 x7 1 7).bind fun x8 => some ((x8, h6)) else none else none) else (some (((-1 : Int32), h))))))
set_option maxHeartbeats 4000000 in
set_option maxRecDepth 100000 in
theorem t_X6_extended {g : GT} {l : Launch} {h : Hp} {a0 : Nat} {a1 : Int32} {a2 : Int32} {r : (Int32 × Hp)} (hf : f_X6_extended h a0 a1 a2 = some r) : PM g l 42 0 0 yX6_extended wsX6_extended [.ref a0, .int a1, .int a2] h (fun r9 h9 => r9 = some (.int r.1) ∧ h9 = r.2) := by
  refine pm_of (M := m_X6_extended) (by decide) rfl rfl rfl (Nat.le_of_ble_eq_true rfl) (lo := [some (.ref a0), some (.int a1), some (.int a2)]) rfl ?_
  rw [f_X6_extended] at hf
  refine pw_iload_n dX6_extended_0 rfl ?_
  refine pw_iconst (v := (1)) dX6_extended_1 (by decide) ?_
  refine q_icmp_lt (tgt := 25) hf dX6_extended_2 (by decide) (fun hf _ => ?_) (fun hf _ => ?_)
  · refine pw_iconst (v := (-1)) dX6_extended_25 (by decide) ?_
    exact pw_iret (x := (-1 : Int32)) rfl rfl dX6_extended_26 (ret_iw hf)
  · refine pw_iload_n dX6_extended_5 rfl ?_
    refine pw_bipush (v := (7)) dX6_extended_6 (by decide) ?_
    refine q_icmp_gt (tgt := 25) hf dX6_extended_8 (by decide) (fun hf _ => ?_) (fun hf _ => ?_)
    · refine pw_iconst (v := (-1)) dX6_extended_25 (by decide) ?_
      exact pw_iret (x := (-1 : Int32)) rfl rfl dX6_extended_26 (ret_iw hf)
    · refine pw_iload_n dX6_extended_11 rfl ?_
      refine pw_iconst (v := (1)) dX6_extended_12 (by decide) ?_
      refine q_icmp_lt (tgt := 25) hf dX6_extended_13 (by decide) (fun hf _ => ?_) (fun hf _ => ?_)
      · refine pw_iconst (v := (-1)) dX6_extended_25 (by decide) ?_
        exact pw_iret (x := (-1 : Int32)) rfl rfl dX6_extended_26 (ret_iw hf)
      · refine pw_iload_n dX6_extended_16 rfl ?_
        refine pw_iconst (v := (2)) dX6_extended_17 (by decide) ?_
        refine pw_iload_n dX6_extended_18 rfl ?_
        refine pw_imul dX6_extended_19 ?_
        refine pw_iconst (v := (1)) dX6_extended_20 (by decide) ?_
        refine pw_iadd dX6_extended_21 ?_
        refine q_icmp_le (tgt := 27) hf dX6_extended_22 (by decide) (fun hf _ => ?_) (fun hf _ => ?_)
        · refine pw_aload_n dX6_extended_27 rfl ?_
          refine q_gR hf rfl (by decide) w9_X6_extended_X6 (by decide +kernel) dX6_extended_28 (fun x1 hf => ?_)
          refine pw_iconst (v := (2)) dX6_extended_31 (by decide) ?_
          refine pw_iload_n dX6_extended_32 rfl ?_
          refine pw_imul dX6_extended_33 ?_
          refine pw_iconst (v := (1)) dX6_extended_34 (by decide) ?_
          refine pw_iadd dX6_extended_35 ?_
          refine pw_iload_n dX6_extended_36 rfl ?_
          refine q_callS_i (kc2 := 0) (ks2 := 0) (as := [.int a2]) (rest := [.int (((2 : Int32) * a1) + (1 : Int32)), .ref x1]) hf (fun x9 e9 => t_X6_bit e9) gX6_extended_X6_bit rfl hd9_X6_bit rfl ⟨(by decide), by decide⟩ ⟨rfl, rfl⟩ (Nat.le_of_ble_eq_true rfl) dX6_extended_37 rfl (fun x2 hf => ?_)
          refine pw_iconst (v := (1)) dX6_extended_40 (by decide) ?_
          refine pw_iload_n dX6_extended_41 rfl ?_
          refine pw_ishl dX6_extended_42 ?_
          refine pw_iconst (v := (1)) dX6_extended_43 (by decide) ?_
          refine pw_isub dX6_extended_44 ?_
          refine q_callV_v (kc2 := 0) (ks2 := 0) (as := [.int (((2 : Int32) * a1) + (1 : Int32)), .int x2, .int (((1 : Int32) <<< (a1 &&& 31)) - (1 : Int32))]) (rest := []) hf (fun x9 e9 => t_X2_begin e9) gX6_extended_X2_begin rfl hd9_X2_begin rfl rfl ⟨(by decide), by decide⟩ ⟨rfl, rfl⟩ (Nat.le_of_ble_eq_true rfl) dX6_extended_45 rfl (fun h3 hf => ?_)
          refine pw_aload_n dX6_extended_48 rfl ?_
          refine q_gR hf rfl (by decide) w9_X6_extended_X6 (by decide +kernel) dX6_extended_49 (fun x4 hf => ?_)
          refine pw_aload_n dX6_extended_52 rfl ?_
          refine q_gR hf rfl (by decide) w9_X6_extended_X6 (by decide +kernel) dX6_extended_53 (fun x5 hf => ?_)
          refine q_callV_v (kc2 := 0) (ks2 := 0) (as := [.ref x5]) (rest := []) hf (fun x9 e9 => t_X1_countAll e9) gX6_extended_X1_countAll rfl hd9_X1_countAll rfl rfl ⟨(by decide), by decide⟩ ⟨rfl, rfl⟩ (Nat.le_of_ble_eq_true rfl) dX6_extended_56 rfl (fun h6 hf => ?_)
          refine pw_aload_n dX6_extended_59 rfl ?_
          refine q_gR hf rfl (by decide) w9_X6_extended_X6 (by decide +kernel) dX6_extended_60 (fun x7 hf => ?_)
          refine q_gIN (host := "TwinRows") hf rfl (by decide) w9_X6_extended_X1 (by decide +kernel) dX6_extended_63 (fun x8 hf => ?_)
          exact pw_iret (x := x8) rfl rfl dX6_extended_66 (ret_iw hf)
        · refine pw_iconst (v := (-1)) dX6_extended_25 (by decide) ?_
          exact pw_iret (x := (-1 : Int32)) rfl rfl dX6_extended_26 (ret_iw hf)
/-! X6_made -/
abbrev m_X6_made : MD := (cX6_made, RX6, "made", wsX6_made, 2, (some .int))
theorem w9_X6_made_X4 : ∀ w ∈ u_ws RX4 TX4 3, w ∈ wsX6_made := by decide +kernel
theorem w9_X6_made_X6 : ∀ w ∈ u_ws RX6 TX6 14, w ∈ wsX6_made := by decide +kernel
theorem hd9_X6_made : yX6_made.cls = RX6 ∧ yX6_made.cls ≠ "java/lang/invoke/MethodHandle" ∧ yX6_made.cls ≠ "java/lang/invoke/VarHandle" ∧ (parseMethodDescriptor yX6_made.desc).map (fun d => d.parameters.length) = some 1 := by decide +kernel
def f_X6_made (h : Hp) (a0 : Nat) (a1 : Int32) : Option (Int32 × Hp) := if a1 = (6 : Int32) then (if (a1 - a1 / (4 : Int32) * (4 : Int32)) = (3 : Int32) then (some (((-1 : Int32), h))) else ((gR h a0 6 12).bind fun x1 => if oK h x1 4 = true then (f_X4_make h x1 a1).bind fun h2 => (gR h2 a0 6 12).bind fun x3 => (gI h2 x3 4 2).bind fun x4 => some ((x4, h2)) else none)) else (if a1 < (8 : Int32) then (some (((-1 : Int32), h))) else (if (60 : Int32) < a1 then (some (((-1 : Int32), h))) else (if (a1 - a1 / (4 : Int32) * (4 : Int32)) = (3 : Int32) then (some (((-1 : Int32), h))) else ((gR h a0 6 12).bind fun x5 => if oK h x5 4 = true then (f_X4_make h x5 a1).bind fun h6 => (gR h6 a0 6 12).bind fun x7 => (gI h6 x7 4 2).bind fun x8 => some ((x8, h6)) else none))))
set_option maxHeartbeats 4000000 in
set_option maxRecDepth 100000 in
theorem t_X6_made {g : GT} {l : Launch} {h : Hp} {a0 : Nat} {a1 : Int32} {r : (Int32 × Hp)} (hf : f_X6_made h a0 a1 = some r) : PM g l 5 0 0 yX6_made wsX6_made [.ref a0, .int a1] h (fun r9 h9 => r9 = some (.int r.1) ∧ h9 = r.2) := by
  refine pm_of (M := m_X6_made) (by decide) rfl rfl rfl (Nat.le_of_ble_eq_true rfl) (lo := [some (.ref a0), some (.int a1)]) rfl ?_
  rw [f_X6_made] at hf
  refine pw_iload_n dX6_made_0 rfl ?_
  refine pw_bipush (v := (6)) dX6_made_1 (by decide) ?_
  refine q_icmp_eq (tgt := 18) hf dX6_made_3 (by decide) (fun hf _ => ?_) (fun hf _ => ?_)
  · refine pw_iload_n dX6_made_18 rfl ?_
    refine pw_iconst (v := (4)) dX6_made_19 (by decide) ?_
    refine pw_irem dX6_made_20 (by decide) ?_
    refine pw_iconst (v := (3)) dX6_made_21 (by decide) ?_
    refine q_icmp_ne (tgt := 27) hf dX6_made_22 (by decide) (fun hf _ => ?_) (fun hf _ => ?_)
    · refine pw_aload_n dX6_made_27 rfl ?_
      refine q_gR hf rfl (by decide) w9_X6_made_X6 (by decide +kernel) dX6_made_28 (fun x1 hf => ?_)
      refine pw_iload_n dX6_made_31 rfl ?_
      refine q_callV_v (kc2 := 0) (ks2 := 0) (as := [.int a1]) (rest := []) hf (fun x9 e9 => t_X4_make e9) gX6_made_X4_make rfl hd9_X4_make rfl rfl ⟨(by decide), by decide⟩ ⟨rfl, rfl⟩ (Nat.le_of_ble_eq_true rfl) dX6_made_32 rfl (fun h2 hf => ?_)
      refine pw_aload_n dX6_made_35 rfl ?_
      refine q_gR hf rfl (by decide) w9_X6_made_X6 (by decide +kernel) dX6_made_36 (fun x3 hf => ?_)
      refine q_gIN (host := "TwinRows") hf rfl (by decide) w9_X6_made_X4 (by decide +kernel) dX6_made_39 (fun x4 hf => ?_)
      exact pw_iret (x := x4) rfl rfl dX6_made_42 (ret_iw hf)
    · refine pw_iconst (v := (-1)) dX6_made_25 (by decide) ?_
      exact pw_iret (x := (-1 : Int32)) rfl rfl dX6_made_26 (ret_iw hf)
  · refine pw_iload_n dX6_made_6 rfl ?_
    refine pw_bipush (v := (8)) dX6_made_7 (by decide) ?_
    refine q_icmp_lt (tgt := 25) hf dX6_made_9 (by decide) (fun hf _ => ?_) (fun hf _ => ?_)
    · refine pw_iconst (v := (-1)) dX6_made_25 (by decide) ?_
      exact pw_iret (x := (-1 : Int32)) rfl rfl dX6_made_26 (ret_iw hf)
    · refine pw_iload_n dX6_made_12 rfl ?_
      refine pw_bipush (v := (60)) dX6_made_13 (by decide) ?_
      refine q_icmp_gt (tgt := 25) hf dX6_made_15 (by decide) (fun hf _ => ?_) (fun hf _ => ?_)
      · refine pw_iconst (v := (-1)) dX6_made_25 (by decide) ?_
        exact pw_iret (x := (-1 : Int32)) rfl rfl dX6_made_26 (ret_iw hf)
      · refine pw_iload_n dX6_made_18 rfl ?_
        refine pw_iconst (v := (4)) dX6_made_19 (by decide) ?_
        refine pw_irem dX6_made_20 (by decide) ?_
        refine pw_iconst (v := (3)) dX6_made_21 (by decide) ?_
        refine q_icmp_ne (tgt := 27) hf dX6_made_22 (by decide) (fun hf _ => ?_) (fun hf _ => ?_)
        · refine pw_aload_n dX6_made_27 rfl ?_
          refine q_gR hf rfl (by decide) w9_X6_made_X6 (by decide +kernel) dX6_made_28 (fun x5 hf => ?_)
          refine pw_iload_n dX6_made_31 rfl ?_
          refine q_callV_v (kc2 := 0) (ks2 := 0) (as := [.int a1]) (rest := []) hf (fun x9 e9 => t_X4_make e9) gX6_made_X4_make rfl hd9_X4_make rfl rfl ⟨(by decide), by decide⟩ ⟨rfl, rfl⟩ (Nat.le_of_ble_eq_true rfl) dX6_made_32 rfl (fun h6 hf => ?_)
          refine pw_aload_n dX6_made_35 rfl ?_
          refine q_gR hf rfl (by decide) w9_X6_made_X6 (by decide +kernel) dX6_made_36 (fun x7 hf => ?_)
          refine q_gIN (host := "TwinRows") hf rfl (by decide) w9_X6_made_X4 (by decide +kernel) dX6_made_39 (fun x8 hf => ?_)
          exact pw_iret (x := x8) rfl rfl dX6_made_42 (ret_iw hf)
        · refine pw_iconst (v := (-1)) dX6_made_25 (by decide) ?_
          exact pw_iret (x := (-1 : Int32)) rfl rfl dX6_made_26 (ret_iw hf)
/-! X6_third -/
abbrev m_X6_third : MD := (cX6_third, RX6, "third", wsX6_third, 3, (some .int))
theorem w9_X6_third_X6 : ∀ w ∈ u_ws RX6 TX6 14, w ∈ wsX6_third := by decide +kernel
theorem hd9_X6_third : yX6_third.cls = RX6 ∧ yX6_third.cls ≠ "java/lang/invoke/MethodHandle" ∧ yX6_third.cls ≠ "java/lang/invoke/VarHandle" ∧ (parseMethodDescriptor yX6_third.desc).map (fun d => d.parameters.length) = some 2 := by decide +kernel
def f_X6_third (h : Hp) (a0 : Nat) (a1 : Int32) (a2 : Int32) : Option Int32 := (gR h a0 6 12).bind fun x1 => if oK h x1 4 = true then (f_X4_thirdOf h x1 a1 a2).bind fun x2 => some (x2) else none
set_option maxHeartbeats 4000000 in
set_option maxRecDepth 100000 in
theorem t_X6_third {g : GT} {l : Launch} {h : Hp} {a0 : Nat} {a1 : Int32} {a2 : Int32} {r : Int32} (hf : f_X6_third h a0 a1 a2 = some r) : PM g l 4 0 0 yX6_third wsX6_third [.ref a0, .int a1, .int a2] h (fun r9 h9 => r9 = some (.int r) ∧ h9 = h) := by
  refine pm_of (M := m_X6_third) (by decide) rfl rfl rfl (Nat.le_of_ble_eq_true rfl) (lo := [some (.ref a0), some (.int a1), some (.int a2)]) rfl ?_
  rw [f_X6_third] at hf
  refine pw_aload_n dX6_third_0 rfl ?_
  refine q_gR hf rfl (by decide) w9_X6_third_X6 (by decide +kernel) dX6_third_1 (fun x1 hf => ?_)
  refine pw_iload_n dX6_third_4 rfl ?_
  refine pw_iload_n dX6_third_5 rfl ?_
  refine q_callV_i (kc2 := 0) (ks2 := 0) (as := [.int a1, .int a2]) (rest := []) hf (fun x9 e9 => t_X4_thirdOf e9) gX6_third_X4_thirdOf rfl hd9_X4_thirdOf rfl rfl ⟨(by decide), by decide⟩ ⟨rfl, rfl⟩ (Nat.le_of_ble_eq_true rfl) dX6_third_6 rfl (fun x2 hf => ?_)
  exact pw_iret (x := x2) rfl rfl dX6_third_9 ⟨congrArg (fun z => some (Value.int z)) (Option.some.inj hf), rfl⟩
/-! X6_hole -/
abbrev m_X6_hole : MD := (cX6_hole, RX6, "hole", wsX6_hole, 4, (some .int))
theorem w9_X6_hole_X6 : ∀ w ∈ u_ws RX6 TX6 14, w ∈ wsX6_hole := by decide +kernel
theorem hd9_X6_hole : yX6_hole.cls = RX6 ∧ yX6_hole.cls ≠ "java/lang/invoke/MethodHandle" ∧ yX6_hole.cls ≠ "java/lang/invoke/VarHandle" ∧ (parseMethodDescriptor yX6_hole.desc).map (fun d => d.parameters.length) = some 2 := by decide +kernel
def f_X6_hole (h : Hp) (a0 : Nat) (a1 : Int32) (a2 : Int32) : Option (Int32 × Hp) := (gR h a0 6 5).bind fun x1 => (gR h a0 6 4).bind fun x2 => if oK h x1 2 = true then (f_X2_copy h x1 x2).bind fun h3 => (gR h3 a0 6 4).bind fun x4 => if oK h3 x4 2 = true then (f_X2_setHole h3 x4 a1 a2).bind fun x5 => if x5.1 = (-1 : Int32) then (some ((x5.1, x5.2))) else (if oK x5.2 a0 6 = true then (f_X6_acted x5.2 a0).bind fun h6 => some ((x5.1, h6)) else none) else none else none
set_option maxHeartbeats 4000000 in
set_option maxRecDepth 100000 in
theorem t_X6_hole {g : GT} {l : Launch} {h : Hp} {a0 : Nat} {a1 : Int32} {a2 : Int32} {r : (Int32 × Hp)} (hf : f_X6_hole h a0 a1 a2 = some r) : PM g l 4 2 20 yX6_hole wsX6_hole [.ref a0, .int a1, .int a2] h (fun r9 h9 => r9 = some (.int r.1) ∧ h9 = r.2) := by
  refine pm_of (M := m_X6_hole) (by decide) rfl rfl rfl (Nat.le_of_ble_eq_true rfl) (lo := [some (.ref a0), some (.int a1), some (.int a2), none]) rfl ?_
  rw [f_X6_hole] at hf
  refine pw_aload_n dX6_hole_0 rfl ?_
  refine q_gR hf rfl (by decide) w9_X6_hole_X6 (by decide +kernel) dX6_hole_1 (fun x1 hf => ?_)
  refine pw_aload_n dX6_hole_4 rfl ?_
  refine q_gR hf rfl (by decide) w9_X6_hole_X6 (by decide +kernel) dX6_hole_5 (fun x2 hf => ?_)
  refine q_callV_v (kc2 := 2) (ks2 := 20) (as := [.ref x2]) (rest := []) hf (fun x9 e9 => t_X2_copy e9) gX6_hole_X2_copy rfl hd9_X2_copy rfl rfl ⟨(by decide), by decide⟩ ⟨rfl, rfl⟩ (Nat.le_of_ble_eq_true rfl) dX6_hole_8 rfl (fun h3 hf => ?_)
  refine pw_aload_n dX6_hole_11 rfl ?_
  refine q_gR hf rfl (by decide) w9_X6_hole_X6 (by decide +kernel) dX6_hole_12 (fun x4 hf => ?_)
  refine pw_iload_n dX6_hole_15 rfl ?_
  refine pw_iload_n dX6_hole_16 rfl ?_
  refine q_callV_iw (kc2 := 2) (ks2 := 20) (as := [.int a1, .int a2]) (rest := []) hf (fun x9 e9 => t_X2_setHole e9) gX6_hole_X2_setHole rfl hd9_X2_setHole rfl rfl ⟨(by decide), by decide⟩ ⟨rfl, rfl⟩ (Nat.le_of_ble_eq_true rfl) dX6_hole_17 rfl (fun x5 hf => ?_)
  refine pw_istore_n dX6_hole_20 (by decide) rfl ?_
  dsimp only [lset, lset2, clr]
  refine pw_iload_n dX6_hole_21 rfl ?_
  refine pw_iconst (v := (-1)) dX6_hole_22 (by decide) ?_
  refine q_icmp_eq (tgt := 30) hf dX6_hole_23 (by decide) (fun hf _ => ?_) (fun hf _ => ?_)
  · refine pw_iload_n dX6_hole_30 rfl ?_
    exact pw_iret (x := x5.1) rfl rfl dX6_hole_31 (ret_iw hf)
  · refine pw_aload_n dX6_hole_26 rfl ?_
    refine q_callV_v (kc2 := 0) (ks2 := 0) (as := []) (rest := []) hf (fun x9 e9 => t_X6_acted e9) gX6_hole_X6_acted rfl hd9_X6_acted rfl rfl ⟨(by decide), by decide⟩ ⟨rfl, rfl⟩ (Nat.le_of_ble_eq_true rfl) dX6_hole_27 rfl (fun h6 hf => ?_)
    refine pw_iload_n dX6_hole_30 rfl ?_
    exact pw_iret (x := x5.1) rfl rfl dX6_hole_31 (ret_iw hf)
/-! X6_pair -/
abbrev m_X6_pair : MD := (cX6_pair, RX6, "pair", wsX6_pair, 4, (some .int))
theorem w9_X6_pair_X6 : ∀ w ∈ u_ws RX6 TX6 14, w ∈ wsX6_pair := by decide +kernel
theorem hd9_X6_pair : yX6_pair.cls = RX6 ∧ yX6_pair.cls ≠ "java/lang/invoke/MethodHandle" ∧ yX6_pair.cls ≠ "java/lang/invoke/VarHandle" ∧ (parseMethodDescriptor yX6_pair.desc).map (fun d => d.parameters.length) = some 2 := by decide +kernel
def f_X6_pair (h : Hp) (a0 : Nat) (a1 : Int32) (a2 : Int32) : Option (Int32 × Hp) := (gR h a0 6 5).bind fun x1 => (gR h a0 6 4).bind fun x2 => if oK h x1 2 = true then (f_X2_copy h x1 x2).bind fun h3 => (gR h3 a0 6 4).bind fun x4 => if oK h3 x4 2 = true then (f_X2_setPair h3 x4 a1 a2).bind fun x5 => if x5.1 = (-1 : Int32) then (some ((x5.1, x5.2))) else (if oK x5.2 a0 6 = true then (f_X6_acted x5.2 a0).bind fun h6 => some ((x5.1, h6)) else none) else none else none
set_option maxHeartbeats 4000000 in
set_option maxRecDepth 100000 in
theorem t_X6_pair {g : GT} {l : Launch} {h : Hp} {a0 : Nat} {a1 : Int32} {a2 : Int32} {r : (Int32 × Hp)} (hf : f_X6_pair h a0 a1 a2 = some r) : PM g l 4 2 20 yX6_pair wsX6_pair [.ref a0, .int a1, .int a2] h (fun r9 h9 => r9 = some (.int r.1) ∧ h9 = r.2) := by
  refine pm_of (M := m_X6_pair) (by decide) rfl rfl rfl (Nat.le_of_ble_eq_true rfl) (lo := [some (.ref a0), some (.int a1), some (.int a2), none]) rfl ?_
  rw [f_X6_pair] at hf
  refine pw_aload_n dX6_pair_0 rfl ?_
  refine q_gR hf rfl (by decide) w9_X6_pair_X6 (by decide +kernel) dX6_pair_1 (fun x1 hf => ?_)
  refine pw_aload_n dX6_pair_4 rfl ?_
  refine q_gR hf rfl (by decide) w9_X6_pair_X6 (by decide +kernel) dX6_pair_5 (fun x2 hf => ?_)
  refine q_callV_v (kc2 := 2) (ks2 := 20) (as := [.ref x2]) (rest := []) hf (fun x9 e9 => t_X2_copy e9) gX6_pair_X2_copy rfl hd9_X2_copy rfl rfl ⟨(by decide), by decide⟩ ⟨rfl, rfl⟩ (Nat.le_of_ble_eq_true rfl) dX6_pair_8 rfl (fun h3 hf => ?_)
  refine pw_aload_n dX6_pair_11 rfl ?_
  refine q_gR hf rfl (by decide) w9_X6_pair_X6 (by decide +kernel) dX6_pair_12 (fun x4 hf => ?_)
  refine pw_iload_n dX6_pair_15 rfl ?_
  refine pw_iload_n dX6_pair_16 rfl ?_
  refine q_callV_iw (kc2 := 2) (ks2 := 20) (as := [.int a1, .int a2]) (rest := []) hf (fun x9 e9 => t_X2_setPair e9) gX6_pair_X2_setPair rfl hd9_X2_setPair rfl rfl ⟨(by decide), by decide⟩ ⟨rfl, rfl⟩ (Nat.le_of_ble_eq_true rfl) dX6_pair_17 rfl (fun x5 hf => ?_)
  refine pw_istore_n dX6_pair_20 (by decide) rfl ?_
  dsimp only [lset, lset2, clr]
  refine pw_iload_n dX6_pair_21 rfl ?_
  refine pw_iconst (v := (-1)) dX6_pair_22 (by decide) ?_
  refine q_icmp_eq (tgt := 30) hf dX6_pair_23 (by decide) (fun hf _ => ?_) (fun hf _ => ?_)
  · refine pw_iload_n dX6_pair_30 rfl ?_
    exact pw_iret (x := x5.1) rfl rfl dX6_pair_31 (ret_iw hf)
  · refine pw_aload_n dX6_pair_26 rfl ?_
    refine q_callV_v (kc2 := 0) (ks2 := 0) (as := []) (rest := []) hf (fun x9 e9 => t_X6_acted e9) gX6_pair_X6_acted rfl hd9_X6_acted rfl rfl ⟨(by decide), by decide⟩ ⟨rfl, rfl⟩ (Nat.le_of_ble_eq_true rfl) dX6_pair_27 rfl (fun h6 hf => ?_)
    refine pw_iload_n dX6_pair_30 rfl ?_
    exact pw_iret (x := x5.1) rfl rfl dX6_pair_31 (ret_iw hf)
/-! X6_pin -/
abbrev m_X6_pin : MD := (cX6_pin, RX6, "pin", wsX6_pin, 4, (some .int))
theorem w9_X6_pin_X6 : ∀ w ∈ u_ws RX6 TX6 14, w ∈ wsX6_pin := by decide +kernel
theorem hd9_X6_pin : yX6_pin.cls = RX6 ∧ yX6_pin.cls ≠ "java/lang/invoke/MethodHandle" ∧ yX6_pin.cls ≠ "java/lang/invoke/VarHandle" ∧ (parseMethodDescriptor yX6_pin.desc).map (fun d => d.parameters.length) = some 2 := by decide +kernel
def f_X6_pin (h : Hp) (a0 : Nat) (a1 : Int32) (a2 : Int32) : Option (Int32 × Hp) := (gR h a0 6 5).bind fun x1 => (gR h a0 6 4).bind fun x2 => if oK h x1 2 = true then (f_X2_copy h x1 x2).bind fun h3 => (gR h3 a0 6 4).bind fun x4 => if oK h3 x4 2 = true then (f_X2_setPin h3 x4 a1 a2).bind fun x5 => if x5.1 = 0 then (if oK x5.2 a0 6 = true then (f_X6_acted x5.2 a0).bind fun h6 => some ((x5.1, h6)) else none) else (some ((x5.1, x5.2))) else none else none
set_option maxHeartbeats 4000000 in
set_option maxRecDepth 100000 in
theorem t_X6_pin {g : GT} {l : Launch} {h : Hp} {a0 : Nat} {a1 : Int32} {a2 : Int32} {r : (Int32 × Hp)} (hf : f_X6_pin h a0 a1 a2 = some r) : PM g l 4 2 20 yX6_pin wsX6_pin [.ref a0, .int a1, .int a2] h (fun r9 h9 => r9 = some (.int r.1) ∧ h9 = r.2) := by
  refine pm_of (M := m_X6_pin) (by decide) rfl rfl rfl (Nat.le_of_ble_eq_true rfl) (lo := [some (.ref a0), some (.int a1), some (.int a2), none]) rfl ?_
  rw [f_X6_pin] at hf
  refine pw_aload_n dX6_pin_0 rfl ?_
  refine q_gR hf rfl (by decide) w9_X6_pin_X6 (by decide +kernel) dX6_pin_1 (fun x1 hf => ?_)
  refine pw_aload_n dX6_pin_4 rfl ?_
  refine q_gR hf rfl (by decide) w9_X6_pin_X6 (by decide +kernel) dX6_pin_5 (fun x2 hf => ?_)
  refine q_callV_v (kc2 := 2) (ks2 := 20) (as := [.ref x2]) (rest := []) hf (fun x9 e9 => t_X2_copy e9) gX6_pin_X2_copy rfl hd9_X2_copy rfl rfl ⟨(by decide), by decide⟩ ⟨rfl, rfl⟩ (Nat.le_of_ble_eq_true rfl) dX6_pin_8 rfl (fun h3 hf => ?_)
  refine pw_aload_n dX6_pin_11 rfl ?_
  refine q_gR hf rfl (by decide) w9_X6_pin_X6 (by decide +kernel) dX6_pin_12 (fun x4 hf => ?_)
  refine pw_iload_n dX6_pin_15 rfl ?_
  refine pw_iload_n dX6_pin_16 rfl ?_
  refine q_callV_iw (kc2 := 2) (ks2 := 20) (as := [.int a1, .int a2]) (rest := []) hf (fun x9 e9 => t_X2_setPin e9) gX6_pin_X2_setPin rfl hd9_X2_setPin rfl rfl ⟨(by decide), by decide⟩ ⟨rfl, rfl⟩ (Nat.le_of_ble_eq_true rfl) dX6_pin_17 rfl (fun x5 hf => ?_)
  refine pw_istore_n dX6_pin_20 (by decide) rfl ?_
  dsimp only [lset, lset2, clr]
  refine pw_iload_n dX6_pin_21 rfl ?_
  refine q_if_ne (tgt := 29) hf dX6_pin_22 (by decide) (fun hf _ => ?_) (fun hf _ => ?_)
  · refine pw_iload_n dX6_pin_29 rfl ?_
    exact pw_iret (x := x5.1) rfl rfl dX6_pin_30 (ret_iw hf)
  · refine pw_aload_n dX6_pin_25 rfl ?_
    refine q_callV_v (kc2 := 0) (ks2 := 0) (as := []) (rest := []) hf (fun x9 e9 => t_X6_acted e9) gX6_pin_X6_acted rfl hd9_X6_acted rfl rfl ⟨(by decide), by decide⟩ ⟨rfl, rfl⟩ (Nat.le_of_ble_eq_true rfl) dX6_pin_26 rfl (fun h6 hf => ?_)
    refine pw_iload_n dX6_pin_29 rfl ?_
    exact pw_iret (x := x5.1) rfl rfl dX6_pin_30 (ret_iw hf)
/-! X6_drawn -/
abbrev m_X6_drawn : MD := (cX6_drawn, RX6, "drawn", wsX6_drawn, 5, (some .int))
theorem w9_X6_drawn_X0 : ∀ w ∈ u_ws RX0 TX0 1, w ∈ wsX6_drawn := by decide +kernel
theorem w9_X6_drawn_X6 : ∀ w ∈ u_ws RX6 TX6 14, w ∈ wsX6_drawn := by decide +kernel
theorem hd9_X6_drawn : yX6_drawn.cls = RX6 ∧ yX6_drawn.cls ≠ "java/lang/invoke/MethodHandle" ∧ yX6_drawn.cls ≠ "java/lang/invoke/VarHandle" ∧ (parseMethodDescriptor yX6_drawn.desc).map (fun d => d.parameters.length) = some 2 := by decide +kernel
def f_X6_drawn_37 : Nat → Nat → Int32 → Int32 → Int32 → Hp → Option (Int32 × Hp)
  | 0, _, _, _, _, _ => none
  | n + 1, v0, v1, v3, v4, h => if v1 ≤ v4 then (if v3 ≤ 0 then (some ((v3, h))) else (if oK h v0 6 = true then (f_X6_acted h v0).bind fun h1 => some ((v3, h1)) else none)) else ((gR h v0 6 8).bind fun x2 => (gR h v0 6 4).bind fun x3 => if oK h x2 0 = true then (f_X0_doDeed h x2 x3).bind fun x4 => if x4.1 = 0 then (f_X6_drawn_37 n v0 v1 v3 (v4 + (1)) x4.2) else (f_X6_drawn_37 n v0 v1 (v3 + (1)) (v4 + (1)) x4.2) else none)
set_option maxHeartbeats 4000000 in
set_option maxRecDepth 100000 in
theorem w_X6_drawn_37 {g : GT} {l : Launch} {r : (Int32 × Hp)} : ∀ (n : Nat) (v0 : Nat) (v1 : Int32) (v3 : Int32) (v4 : Int32) (h : Hp), f_X6_drawn_37 n v0 v1 v3 v4 h = some r → PW g l m_X6_drawn 6 2 20 37 [some (.ref v0), some (.int v1), none, some (.int v3), some (.int v4)] [] h (fun r9 h9 => r9 = some (.int r.1) ∧ h9 = r.2) := by
  intro n
  induction n with
  | zero => intro v0 v1 v3 v4 h hf; cases hf
  | succ n ih =>
    intro v0 v1 v3 v4 h hf
    rw [f_X6_drawn_37] at hf
    refine pw_iload dX6_drawn_37 rfl ?_
    refine pw_iload_n dX6_drawn_39 rfl ?_
    refine q_icmp_ge (tgt := 66) hf dX6_drawn_40 (by decide) (fun hf _ => ?_) (fun hf _ => ?_)
    · refine pw_iload_n dX6_drawn_66 rfl ?_
      refine q_if_le (tgt := 74) hf dX6_drawn_67 (by decide) (fun hf _ => ?_) (fun hf _ => ?_)
      · refine pw_iload_n dX6_drawn_74 rfl ?_
        exact pw_iret (x := v3) rfl rfl dX6_drawn_75 (ret_iw hf)
      · refine pw_aload_n dX6_drawn_70 rfl ?_
        refine q_callV_v (kc2 := 0) (ks2 := 0) (as := []) (rest := []) hf (fun x9 e9 => t_X6_acted e9) gX6_drawn_X6_acted rfl hd9_X6_acted rfl rfl ⟨(by decide), by decide⟩ ⟨rfl, rfl⟩ (Nat.le_of_ble_eq_true rfl) dX6_drawn_71 rfl (fun h1 hf => ?_)
        refine pw_iload_n dX6_drawn_74 rfl ?_
        exact pw_iret (x := v3) rfl rfl dX6_drawn_75 (ret_iw hf)
    · refine pw_aload_n dX6_drawn_43 rfl ?_
      refine q_gR hf rfl (by decide) w9_X6_drawn_X6 (by decide +kernel) dX6_drawn_44 (fun x2 hf => ?_)
      refine pw_aload_n dX6_drawn_47 rfl ?_
      refine q_gR hf rfl (by decide) w9_X6_drawn_X6 (by decide +kernel) dX6_drawn_48 (fun x3 hf => ?_)
      refine q_callV_iw (kc2 := 2) (ks2 := 20) (as := [.ref x3]) (rest := []) hf (fun x9 e9 => t_X0_doDeed e9) gX6_drawn_X0_doDeed rfl hd9_X0_doDeed rfl rfl ⟨(by decide), by decide⟩ ⟨rfl, rfl⟩ (Nat.le_of_ble_eq_true rfl) dX6_drawn_51 rfl (fun x4 hf => ?_)
      refine q_if_eq (tgt := 60) hf dX6_drawn_54 (by decide) (fun hf _ => ?_) (fun hf _ => ?_)
      · refine pw_iinc (v := v4 + (1)) dX6_drawn_60 rfl rfl (by decide) rfl ?_
        dsimp only [lset, lset2, clr]
        refine pw_goto (tgt := 37) dX6_drawn_63 (by decide) ?_
        exact pw_lo (lle_s rfl (lle_s rfl (lle_n (lle_s rfl (lle_s rfl lle_0))))) (ih _ _ _ _ _ hf)
      · refine pw_iinc (v := v3 + (1)) dX6_drawn_57 rfl rfl (by decide) rfl ?_
        dsimp only [lset, lset2, clr]
        refine pw_iinc (v := v4 + (1)) dX6_drawn_60 rfl rfl (by decide) rfl ?_
        dsimp only [lset, lset2, clr]
        refine pw_goto (tgt := 37) dX6_drawn_63 (by decide) ?_
        exact pw_lo (lle_s rfl (lle_s rfl (lle_n (lle_s rfl (lle_s rfl lle_0))))) (ih _ _ _ _ _ hf)
def f_X6_drawn (h : Hp) (a0 : Nat) (a1 : Int32) (a2 : Int32) : Option (Int32 × Hp) := if a1 < (1 : Int32) then (some (((-1 : Int32), h))) else (if a1 ≤ (60 : Int32) then ((gR h a0 6 5).bind fun x1 => (gR h a0 6 4).bind fun x2 => if oK h x1 2 = true then (f_X2_copy h x1 x2).bind fun h3 => (gR h3 a0 6 8).bind fun x4 => (pV h3 x4 0 0 (.int a2)).bind fun h5 => f_X6_drawn_37 4096 a0 a1 (0 : Int32) (0 : Int32) h5 else none) else (some (((-1 : Int32), h))))
set_option maxHeartbeats 4000000 in
set_option maxRecDepth 100000 in
theorem t_X6_drawn {g : GT} {l : Launch} {h : Hp} {a0 : Nat} {a1 : Int32} {a2 : Int32} {r : (Int32 × Hp)} (hf : f_X6_drawn h a0 a1 a2 = some r) : PM g l 6 2 20 yX6_drawn wsX6_drawn [.ref a0, .int a1, .int a2] h (fun r9 h9 => r9 = some (.int r.1) ∧ h9 = r.2) := by
  refine pm_of (M := m_X6_drawn) (by decide) rfl rfl rfl (Nat.le_of_ble_eq_true rfl) (lo := [some (.ref a0), some (.int a1), some (.int a2), none, none]) rfl ?_
  rw [f_X6_drawn] at hf
  refine pw_iload_n dX6_drawn_0 rfl ?_
  refine pw_iconst (v := (1)) dX6_drawn_1 (by decide) ?_
  refine q_icmp_lt (tgt := 11) hf dX6_drawn_2 (by decide) (fun hf _ => ?_) (fun hf _ => ?_)
  · refine pw_iconst (v := (-1)) dX6_drawn_11 (by decide) ?_
    exact pw_iret (x := (-1 : Int32)) rfl rfl dX6_drawn_12 (ret_iw hf)
  · refine pw_iload_n dX6_drawn_5 rfl ?_
    refine pw_bipush (v := (60)) dX6_drawn_6 (by decide) ?_
    refine q_icmp_le (tgt := 13) hf dX6_drawn_8 (by decide) (fun hf _ => ?_) (fun hf _ => ?_)
    · refine pw_aload_n dX6_drawn_13 rfl ?_
      refine q_gR hf rfl (by decide) w9_X6_drawn_X6 (by decide +kernel) dX6_drawn_14 (fun x1 hf => ?_)
      refine pw_aload_n dX6_drawn_17 rfl ?_
      refine q_gR hf rfl (by decide) w9_X6_drawn_X6 (by decide +kernel) dX6_drawn_18 (fun x2 hf => ?_)
      refine q_callV_v (kc2 := 2) (ks2 := 20) (as := [.ref x2]) (rest := []) hf (fun x9 e9 => t_X2_copy e9) gX6_drawn_X2_copy rfl hd9_X2_copy rfl rfl ⟨(by decide), by decide⟩ ⟨rfl, rfl⟩ (Nat.le_of_ble_eq_true rfl) dX6_drawn_21 rfl (fun h3 hf => ?_)
      refine pw_aload_n dX6_drawn_24 rfl ?_
      refine q_gR hf rfl (by decide) w9_X6_drawn_X6 (by decide +kernel) dX6_drawn_25 (fun x4 hf => ?_)
      refine pw_iload_n dX6_drawn_28 rfl ?_
      refine q_pVN (host := "TwinRows") (ty := .int) hf tyX0 tyX0_ok nmX0 rfl (by decide) w9_X6_drawn_X0 (by decide +kernel) rfl (by decide +kernel) rfl rfl dX6_drawn_29 (fun h5 hf => ?_)
      refine pw_iconst (v := (0)) dX6_drawn_32 (by decide) ?_
      refine pw_istore_n dX6_drawn_33 (by decide) rfl ?_
      dsimp only [lset, lset2, clr]
      refine pw_iconst (v := (0)) dX6_drawn_34 (by decide) ?_
      refine pw_istore dX6_drawn_35 (by decide) rfl ?_
      dsimp only [lset, lset2, clr]
      exact pw_lo (lle_s rfl (lle_s rfl (lle_n (lle_s rfl (lle_s rfl lle_0))))) (w_X6_drawn_37 4096 _ _ _ _ _ hf)
    · refine pw_iconst (v := (-1)) dX6_drawn_11 (by decide) ?_
      exact pw_iret (x := (-1 : Int32)) rfl rfl dX6_drawn_12 (ret_iw hf)
/-! X6_undo -/
abbrev m_X6_undo : MD := (cX6_undo, RX6, "undo", wsX6_undo, 1, (some .int))
theorem w9_X6_undo_X1 : ∀ w ∈ u_ws RX1 TX1 8, w ∈ wsX6_undo := by decide +kernel
theorem w9_X6_undo_X3 : ∀ w ∈ u_ws RX3 TX3 3, w ∈ wsX6_undo := by decide +kernel
theorem w9_X6_undo_X6 : ∀ w ∈ u_ws RX6 TX6 14, w ∈ wsX6_undo := by decide +kernel
theorem hd9_X6_undo : yX6_undo.cls = RX6 ∧ yX6_undo.cls ≠ "java/lang/invoke/MethodHandle" ∧ yX6_undo.cls ≠ "java/lang/invoke/VarHandle" ∧ (parseMethodDescriptor yX6_undo.desc).map (fun d => d.parameters.length) = some 0 := by decide +kernel
def f_X6_undo (h : Hp) (a0 : Nat) : Option (Int32 × Hp) := (gR h a0 6 6).bind fun x1 => (gI h x1 3 2).bind fun x2 => if x2 = 0 then (some (((-1 : Int32), h))) else ((gR h a0 6 6).bind fun x3 => (gR h a0 6 4).bind fun x4 => if oK h x3 3 = true then (f_X3_takeLatest h x3 x4).bind fun h5 => (gR h5 a0 6 9).bind fun x6 => (pV h5 x6 1 5 (.int (0 : Int32))).bind fun h7 => (gR h7 a0 6 6).bind fun x8 => (gI h7 x8 3 2).bind fun x9 => some ((x9, h7)) else none)
set_option maxHeartbeats 4000000 in
set_option maxRecDepth 100000 in
theorem t_X6_undo {g : GT} {l : Launch} {h : Hp} {a0 : Nat} {r : (Int32 × Hp)} (hf : f_X6_undo h a0 = some r) : PM g l 3 0 0 yX6_undo wsX6_undo [.ref a0] h (fun r9 h9 => r9 = some (.int r.1) ∧ h9 = r.2) := by
  refine pm_of (M := m_X6_undo) (by decide) rfl rfl rfl (Nat.le_of_ble_eq_true rfl) (lo := [some (.ref a0)]) rfl ?_
  rw [f_X6_undo] at hf
  refine pw_aload_n dX6_undo_0 rfl ?_
  refine q_gR hf rfl (by decide) w9_X6_undo_X6 (by decide +kernel) dX6_undo_1 (fun x1 hf => ?_)
  refine q_gIN (host := "TwinRows") hf rfl (by decide) w9_X6_undo_X3 (by decide +kernel) dX6_undo_4 (fun x2 hf => ?_)
  refine q_if_ne (tgt := 12) hf dX6_undo_7 (by decide) (fun hf _ => ?_) (fun hf _ => ?_)
  · refine pw_aload_n dX6_undo_12 rfl ?_
    refine q_gR hf rfl (by decide) w9_X6_undo_X6 (by decide +kernel) dX6_undo_13 (fun x3 hf => ?_)
    refine pw_aload_n dX6_undo_16 rfl ?_
    refine q_gR hf rfl (by decide) w9_X6_undo_X6 (by decide +kernel) dX6_undo_17 (fun x4 hf => ?_)
    refine q_callV_v (kc2 := 0) (ks2 := 0) (as := [.ref x4]) (rest := []) hf (fun x9 e9 => t_X3_takeLatest e9) gX6_undo_X3_takeLatest rfl hd9_X3_takeLatest rfl rfl ⟨(by decide), by decide⟩ ⟨rfl, rfl⟩ (Nat.le_of_ble_eq_true rfl) dX6_undo_20 rfl (fun h5 hf => ?_)
    refine pw_aload_n dX6_undo_23 rfl ?_
    refine q_gR hf rfl (by decide) w9_X6_undo_X6 (by decide +kernel) dX6_undo_24 (fun x6 hf => ?_)
    refine pw_iconst (v := (0)) dX6_undo_27 (by decide) ?_
    refine q_pVN (host := "TwinRows") (ty := .boolean) hf tyX1 tyX1_ok nmX1 rfl (by decide) w9_X6_undo_X1 (by decide +kernel) rfl (by decide +kernel) rfl rfl dX6_undo_28 (fun h7 hf => ?_)
    refine pw_aload_n dX6_undo_31 rfl ?_
    refine q_gR hf rfl (by decide) w9_X6_undo_X6 (by decide +kernel) dX6_undo_32 (fun x8 hf => ?_)
    refine q_gIN (host := "TwinRows") hf rfl (by decide) w9_X6_undo_X3 (by decide +kernel) dX6_undo_35 (fun x9 hf => ?_)
    exact pw_iret (x := x9) rfl rfl dX6_undo_38 (ret_iw hf)
  · refine pw_iconst (v := (-1)) dX6_undo_10 (by decide) ?_
    exact pw_iret (x := (-1 : Int32)) rfl rfl dX6_undo_11 (ret_iw hf)
/-! X6_image -/
abbrev m_X6_image : MD := (cX6_image, RX6, "image", wsX6_image, 2, (some .boolean))
theorem w9_X6_image_X2 : ∀ w ∈ u_ws RX2 TX2 4, w ∈ wsX6_image := by decide +kernel
theorem w9_X6_image_X6 : ∀ w ∈ u_ws RX6 TX6 14, w ∈ wsX6_image := by decide +kernel
theorem hd9_X6_image : yX6_image.cls = RX6 ∧ yX6_image.cls ≠ "java/lang/invoke/MethodHandle" ∧ yX6_image.cls ≠ "java/lang/invoke/VarHandle" ∧ (parseMethodDescriptor yX6_image.desc).map (fun d => d.parameters.length) = some 1 := by decide +kernel
def f_X6_image (h : Hp) (a0 : Nat) (a1 : Int32) : Option (Int32 × Hp) := if a1 < 0 then (some (((0 : Int32), h))) else (if a1 < (2 : Int32) then ((gR h a0 6 7).bind fun x1 => (aQ h 4 x1 a1).bind fun x14 => if x14.isSome = true then ((gR h a0 6 7).bind fun x2 => (aR h 4 x2 a1).bind fun x3 => (gR h a0 6 4).bind fun x4 => if oK h x3 2 = true then (f_X2_copy h x3 x4).bind fun h5 => some (((1 : Int32), h5)) else none) else ((gR h a0 6 7).bind fun x6 => (nO h 2 [.int 0, .int 0, .int 0, .null]).bind fun x7 => (f_X2_init x7.2 x7.1).bind fun h8 => (sQ h8 x6 a1 x7.1).bind fun h9 => (gR h9 a0 6 7).bind fun x10 => (aR h9 4 x10 a1).bind fun x11 => (gR h9 a0 6 4).bind fun x12 => if oK h9 x11 2 = true then (f_X2_copy h9 x11 x12).bind fun h13 => some (((1 : Int32), h13)) else none)) else (some (((0 : Int32), h))))
set_option maxHeartbeats 4000000 in
set_option maxRecDepth 100000 in
theorem t_X6_image {g : GT} {l : Launch} {h : Hp} {a0 : Nat} {a1 : Int32} {r : (Int32 × Hp)} (hf : f_X6_image h a0 a1 = some r) : PM g l 2 2 20 yX6_image wsX6_image [.ref a0, .int a1] h (fun r9 h9 => r9 = some (.int r.1) ∧ h9 = r.2) := by
  refine pm_of (M := m_X6_image) (by decide) rfl rfl rfl (Nat.le_of_ble_eq_true rfl) (lo := [some (.ref a0), some (.int a1)]) rfl ?_
  rw [f_X6_image] at hf
  refine pw_iload_n dX6_image_0 rfl ?_
  refine q_if_lt (tgt := 9) hf dX6_image_1 (by decide) (fun hf _ => ?_) (fun hf _ => ?_)
  · refine pw_iconst (v := (0)) dX6_image_9 (by decide) ?_
    exact pw_iret (x := (0 : Int32)) rfl rfl dX6_image_10 (ret_iw hf)
  · refine pw_iload_n dX6_image_4 rfl ?_
    refine pw_iconst (v := (2)) dX6_image_5 (by decide) ?_
    refine q_icmp_lt (tgt := 11) hf dX6_image_6 (by decide) (fun hf _ => ?_) (fun hf _ => ?_)
    · refine pw_aload_n dX6_image_11 rfl ?_
      refine q_gR hf rfl (by decide) w9_X6_image_X6 (by decide +kernel) dX6_image_12 (fun x1 hf => ?_)
      refine pw_iload_n dX6_image_15 rfl ?_
      refine q_aaldN hf (by decide) rfl dX6_image_16 (fun x14 hf ex14 => ?_) (fun hf ex14 => ?_)
      · refine pw_ifnonnull (tgt := 33) dX6_image_17 (by decide) ?_
        refine pw_aload_n dX6_image_33 rfl ?_
        refine q_gR hf rfl (by decide) w9_X6_image_X6 (by decide +kernel) dX6_image_34 (fun x2 hf => ?_)
        refine pw_iload_n dX6_image_37 rfl ?_
        refine q_aald hf (by decide) rfl dX6_image_38 (fun x3 hf => ?_)
        refine pw_aload_n dX6_image_39 rfl ?_
        refine q_gR hf rfl (by decide) w9_X6_image_X6 (by decide +kernel) dX6_image_40 (fun x4 hf => ?_)
        refine q_callV_v (kc2 := 2) (ks2 := 20) (as := [.ref x4]) (rest := []) hf (fun x9 e9 => t_X2_copy e9) gX6_image_X2_copy rfl hd9_X2_copy rfl rfl ⟨(by decide), by decide⟩ ⟨rfl, rfl⟩ (Nat.le_of_ble_eq_true rfl) dX6_image_43 rfl (fun h5 hf => ?_)
        refine pw_iconst (v := (1)) dX6_image_46 (by decide) ?_
        exact pw_iret (x := (1 : Int32)) rfl rfl dX6_image_47 (ret_iw hf)
      · refine pw_ifnonnullN dX6_image_17 ?_
        refine pw_aload_n dX6_image_20 rfl ?_
        refine q_gR hf rfl (by decide) w9_X6_image_X6 (by decide +kernel) dX6_image_21 (fun x6 hf => ?_)
        refine pw_iload_n dX6_image_24 rfl ?_
        refine q_new (kc2 := 1) (ks2 := 16) hf tyX2 tyX2_ok rfl w9_X6_image_X2 (by decide +kernel) (by decide +kernel) (by decide +kernel) (fun j hj => by rcases (show j = 0 ∨ j = 1 ∨ j = 2 ∨ j = 3 by omega) with rfl | rfl | rfl | rfl <;> rfl) ⟨rfl, rfl⟩ dX6_image_25 (fun x7 hf => ?_)
        refine pw_dup dX6_image_28 rfl ?_
        refine q_callIN_v (host := "TwinRows") (kc2 := 0) (ks2 := 0) (as := []) (rest := [.ref x7.1, .int a1, .ref x6]) hf (fun x9 e9 => t_X2_init e9) gX6_image_X2_init_n29 (by decide +kernel) (by decide +kernel) (by decide +kernel) rfl rfl hd8_X2_init rfl ⟨by decide, by decide⟩ ⟨rfl, rfl⟩ (Nat.le_of_ble_eq_true rfl) dX6_image_29 rfl (fun h8 hf => ?_)
        refine q_aast hf dX6_image_32 (fun h9 hf => ?_)
        refine pw_aload_n dX6_image_33 rfl ?_
        refine q_gR hf rfl (by decide) w9_X6_image_X6 (by decide +kernel) dX6_image_34 (fun x10 hf => ?_)
        refine pw_iload_n dX6_image_37 rfl ?_
        refine q_aald hf (by decide) rfl dX6_image_38 (fun x11 hf => ?_)
        refine pw_aload_n dX6_image_39 rfl ?_
        refine q_gR hf rfl (by decide) w9_X6_image_X6 (by decide +kernel) dX6_image_40 (fun x12 hf => ?_)
        refine q_callV_v (kc2 := 0) (ks2 := 0) (as := [.ref x12]) (rest := []) hf (fun x9 e9 => t_X2_copy e9) gX6_image_X2_copy rfl hd9_X2_copy rfl rfl ⟨(by decide), by decide⟩ ⟨rfl, rfl⟩ (Nat.le_of_ble_eq_true rfl) dX6_image_43 rfl (fun h13 hf => ?_)
        refine pw_iconst (v := (1)) dX6_image_46 (by decide) ?_
        exact pw_iret (x := (1 : Int32)) rfl rfl dX6_image_47 (ret_iw hf)
    · refine pw_iconst (v := (0)) dX6_image_9 (by decide) ?_
      exact pw_iret (x := (0 : Int32)) rfl rfl dX6_image_10 (ret_iw hf)
/-! X6_restore -/
abbrev m_X6_restore : MD := (cX6_restore, RX6, "restore", wsX6_restore, 2, (some .boolean))
theorem w9_X6_restore_X6 : ∀ w ∈ u_ws RX6 TX6 14, w ∈ wsX6_restore := by decide +kernel
theorem hd9_X6_restore : yX6_restore.cls = RX6 ∧ yX6_restore.cls ≠ "java/lang/invoke/MethodHandle" ∧ yX6_restore.cls ≠ "java/lang/invoke/VarHandle" ∧ (parseMethodDescriptor yX6_restore.desc).map (fun d => d.parameters.length) = some 1 := by decide +kernel
def f_X6_restore (h : Hp) (a0 : Nat) (a1 : Int32) : Option (Int32 × Hp) := if a1 < 0 then (some (((0 : Int32), h))) else (if (2 : Int32) ≤ a1 then (some (((0 : Int32), h))) else ((gR h a0 6 7).bind fun x1 => (aQ h 4 x1 a1).bind fun x5 => if x5.isSome = true then ((gR h a0 6 7).bind fun x2 => (aR h 4 x2 a1).bind fun x3 => if oK h a0 6 = true then (f_X6_becomes h a0 x3).bind fun h4 => some (((1 : Int32), h4)) else none) else (some (((0 : Int32), h)))))
set_option maxHeartbeats 4000000 in
set_option maxRecDepth 100000 in
theorem t_X6_restore {g : GT} {l : Launch} {h : Hp} {a0 : Nat} {a1 : Int32} {r : (Int32 × Hp)} (hf : f_X6_restore h a0 a1 = some r) : PM g l 3 0 0 yX6_restore wsX6_restore [.ref a0, .int a1] h (fun r9 h9 => r9 = some (.int r.1) ∧ h9 = r.2) := by
  refine pm_of (M := m_X6_restore) (by decide) rfl rfl rfl (Nat.le_of_ble_eq_true rfl) (lo := [some (.ref a0), some (.int a1)]) rfl ?_
  rw [f_X6_restore] at hf
  refine pw_iload_n dX6_restore_0 rfl ?_
  refine q_if_lt (tgt := 18) hf dX6_restore_1 (by decide) (fun hf _ => ?_) (fun hf _ => ?_)
  · refine pw_iconst (v := (0)) dX6_restore_18 (by decide) ?_
    exact pw_iret (x := (0 : Int32)) rfl rfl dX6_restore_19 (ret_iw hf)
  · refine pw_iload_n dX6_restore_4 rfl ?_
    refine pw_iconst (v := (2)) dX6_restore_5 (by decide) ?_
    refine q_icmp_ge (tgt := 18) hf dX6_restore_6 (by decide) (fun hf _ => ?_) (fun hf _ => ?_)
    · refine pw_iconst (v := (0)) dX6_restore_18 (by decide) ?_
      exact pw_iret (x := (0 : Int32)) rfl rfl dX6_restore_19 (ret_iw hf)
    · refine pw_aload_n dX6_restore_9 rfl ?_
      refine q_gR hf rfl (by decide) w9_X6_restore_X6 (by decide +kernel) dX6_restore_10 (fun x1 hf => ?_)
      refine pw_iload_n dX6_restore_13 rfl ?_
      refine q_aaldN hf (by decide) rfl dX6_restore_14 (fun x5 hf ex5 => ?_) (fun hf ex5 => ?_)
      · refine pw_ifnonnull (tgt := 20) dX6_restore_15 (by decide) ?_
        refine pw_aload_n dX6_restore_20 rfl ?_
        refine pw_aload_n dX6_restore_21 rfl ?_
        refine q_gR hf rfl (by decide) w9_X6_restore_X6 (by decide +kernel) dX6_restore_22 (fun x2 hf => ?_)
        refine pw_iload_n dX6_restore_25 rfl ?_
        refine q_aald hf (by decide) rfl dX6_restore_26 (fun x3 hf => ?_)
        refine q_callV_v (kc2 := 0) (ks2 := 0) (as := [.ref x3]) (rest := []) hf (fun x9 e9 => t_X6_becomes e9) gX6_restore_X6_becomes rfl hd9_X6_becomes rfl rfl ⟨(by decide), by decide⟩ ⟨rfl, rfl⟩ (Nat.le_of_ble_eq_true rfl) dX6_restore_27 rfl (fun h4 hf => ?_)
        refine pw_iconst (v := (1)) dX6_restore_30 (by decide) ?_
        exact pw_iret (x := (1 : Int32)) rfl rfl dX6_restore_31 (ret_iw hf)
      · refine pw_ifnonnullN dX6_restore_15 ?_
        refine pw_iconst (v := (0)) dX6_restore_18 (by decide) ?_
        exact pw_iret (x := (0 : Int32)) rfl rfl dX6_restore_19 (ret_iw hf)
