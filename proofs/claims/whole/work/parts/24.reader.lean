/-! X5_init -/
abbrev m_X5_init : MD := (cX5_init, RX5, "<init>", wsX5_init, 1, none)
theorem w9_X5_init_X2 : ∀ w ∈ u_ws RX2 TX2 4, w ∈ wsX5_init := by decide +kernel
theorem w9_X5_init_X5 : ∀ w ∈ u_ws RX5 TX5 9, w ∈ wsX5_init := by decide +kernel
theorem hd9_X5_init : yX5_init.cls = RX5 ∧ yX5_init.cls ≠ "java/lang/invoke/MethodHandle" ∧ yX5_init.cls ≠ "java/lang/invoke/VarHandle" ∧ (parseMethodDescriptor yX5_init.desc).map (fun d => d.parameters.length) = some 0 := by decide +kernel
def f_X5_init (h : Hp) (a0 : Nat) : Option Hp := (nO h 2 [.int 0, .int 0, .int 0, .null]).bind fun x1 => (f_X2_init x1.2 x1.1).bind fun h2 => (pV h2 a0 5 0 (.ref x1.1)).bind fun h3 => (nA h3 1 340 (340 : Int32)).bind fun x4 => (pV x4.2 a0 5 1 (.ref x4.1)).bind fun h5 => (pV h5 a0 5 2 (.int (0 : Int32))).bind fun h6 => (pV h6 a0 5 3 (.int (0 : Int32))).bind fun h7 => (pV h7 a0 5 4 (.int (0 : Int32))).bind fun h8 => (pV h8 a0 5 5 (.int (0 : Int32))).bind fun h9 => (pV h9 a0 5 6 (.int (0 : Int32))).bind fun h10 => (pV h10 a0 5 7 (.int (0 : Int32))).bind fun h11 => (pV h11 a0 5 8 (.int (0 : Int32))).bind fun h12 => some h12
theorem hd8_X5_init : yX5_init.cls ≠ "java/lang/invoke/MethodHandle" ∧ yX5_init.cls ≠ "java/lang/invoke/VarHandle" ∧ (parseMethodDescriptor yX5_init.desc).map (fun d => d.parameters.length) = some 0 := hd9_X5_init.2
set_option maxHeartbeats 4000000 in
set_option maxRecDepth 100000 in
theorem t_X5_init {g : GT} {l : Launch} {h : Hp} {a0 : Nat} {r : Hp} (hf : f_X5_init h a0 = some r) : PM g l 2 3 360 yX5_init wsX5_init [.ref a0] h (fun r9 h9 => r9 = none ∧ h9 = r) := by
  refine pm_of (M := m_X5_init) (by decide) rfl rfl rfl (Nat.le_of_ble_eq_true rfl) (lo := [some (.ref a0)]) rfl ?_
  rw [f_X5_init] at hf
  refine pw_aload_n dX5_init_0 rfl ?_
  refine pw_obj (by decide +kernel) (by decide +kernel) (by decide +kernel) (by decide) (Nat.le_of_ble_eq_true rfl) dX5_init_1 ?_
  refine pw_aload_n dX5_init_4 rfl ?_
  refine q_new (kc2 := 2) (ks2 := 356) hf tyX2 tyX2_ok rfl w9_X5_init_X2 (by decide +kernel) (by decide +kernel) (by decide +kernel) (fun j hj => by rcases (show j = 0 ∨ j = 1 ∨ j = 2 ∨ j = 3 by omega) with rfl | rfl | rfl | rfl <;> rfl) ⟨rfl, rfl⟩ dX5_init_5 (fun x1 hf => ?_)
  refine pw_dup dX5_init_8 rfl ?_
  refine q_callIN_v (host := "TwinRows") (kc2 := 1) (ks2 := 340) (as := []) (rest := [.ref x1.1, .ref a0]) hf (fun x9 e9 => t_X2_init e9) gX5_init_X2_init_n11 (by decide +kernel) (by decide +kernel) (by decide +kernel) rfl rfl hd8_X2_init rfl ⟨by decide, by decide⟩ ⟨rfl, rfl⟩ (Nat.le_of_ble_eq_true rfl) dX5_init_9 rfl (fun h2 hf => ?_)
  refine q_pVF (ty := .object "TwinRows$Frame") hf tyX5 tyX5_ok nmX5 rfl (by decide) w9_X5_init_X5 (by decide +kernel) rfl rfl rfl (by decide +kernel) rfl rfl dX5_init_12 (fun h3 hf => ?_)
  refine pw_aload_n dX5_init_15 rfl ?_
  refine pw_sipush (v := (340)) dX5_init_16 (by decide) ?_
  refine q_newa (kc2 := 0) (ks2 := 0) hf (by decide) rfl (by decide +kernel) (by decide) ⟨rfl, rfl⟩ dX5_init_19 (fun x4 hf => ?_)
  refine q_pVF (ty := .array .byte) hf tyX5 tyX5_ok nmX5 rfl (by decide) w9_X5_init_X5 (by decide +kernel) rfl rfl rfl (by decide +kernel) rfl rfl dX5_init_21 (fun h5 hf => ?_)
  refine pw_aload_n dX5_init_24 rfl ?_
  refine pw_iconst (v := (0)) dX5_init_25 (by decide) ?_
  refine q_pV (ty := .int) hf tyX5 tyX5_ok nmX5 rfl (by decide) w9_X5_init_X5 (by decide +kernel) rfl (by decide +kernel) rfl rfl dX5_init_26 (fun h6 hf => ?_)
  refine pw_aload_n dX5_init_29 rfl ?_
  refine pw_iconst (v := (0)) dX5_init_30 (by decide) ?_
  refine q_pV (ty := .int) hf tyX5 tyX5_ok nmX5 rfl (by decide) w9_X5_init_X5 (by decide +kernel) rfl (by decide +kernel) rfl rfl dX5_init_31 (fun h7 hf => ?_)
  refine pw_aload_n dX5_init_34 rfl ?_
  refine pw_iconst (v := (0)) dX5_init_35 (by decide) ?_
  refine q_pV (ty := .int) hf tyX5 tyX5_ok nmX5 rfl (by decide) w9_X5_init_X5 (by decide +kernel) rfl (by decide +kernel) rfl rfl dX5_init_36 (fun h8 hf => ?_)
  refine pw_aload_n dX5_init_39 rfl ?_
  refine pw_iconst (v := (0)) dX5_init_40 (by decide) ?_
  refine q_pV (ty := .int) hf tyX5 tyX5_ok nmX5 rfl (by decide) w9_X5_init_X5 (by decide +kernel) rfl (by decide +kernel) rfl rfl dX5_init_41 (fun h9 hf => ?_)
  refine pw_aload_n dX5_init_44 rfl ?_
  refine pw_iconst (v := (0)) dX5_init_45 (by decide) ?_
  refine q_pV (ty := .int) hf tyX5 tyX5_ok nmX5 rfl (by decide) w9_X5_init_X5 (by decide +kernel) rfl (by decide +kernel) rfl rfl dX5_init_46 (fun h10 hf => ?_)
  refine pw_aload_n dX5_init_49 rfl ?_
  refine pw_iconst (v := (0)) dX5_init_50 (by decide) ?_
  refine q_pV (ty := .int) hf tyX5 tyX5_ok nmX5 rfl (by decide) w9_X5_init_X5 (by decide +kernel) rfl (by decide +kernel) rfl rfl dX5_init_51 (fun h11 hf => ?_)
  refine pw_aload_n dX5_init_54 rfl ?_
  refine pw_iconst (v := (0)) dX5_init_55 (by decide) ?_
  refine q_pV (ty := .int) hf tyX5 tyX5_ok nmX5 rfl (by decide) w9_X5_init_X5 (by decide +kernel) rfl (by decide +kernel) rfl rfl dX5_init_56 (fun h12 hf => ?_)
  exact pw_vret rfl dX5_init_59 ⟨rfl, Option.some.inj hf⟩
/-! X5_advanceRun -/
abbrev m_X5_advanceRun : MD := (cX5_advanceRun, RX5, "advanceRun", wsX5_advanceRun, 4, none)
theorem w9_X5_advanceRun_X5 : ∀ w ∈ u_ws RX5 TX5 9, w ∈ wsX5_advanceRun := by decide +kernel
theorem hd9_X5_advanceRun : yX5_advanceRun.cls = RX5 ∧ yX5_advanceRun.cls ≠ "java/lang/invoke/MethodHandle" ∧ yX5_advanceRun.cls ≠ "java/lang/invoke/VarHandle" ∧ (parseMethodDescriptor yX5_advanceRun.desc).map (fun d => d.parameters.length) = some 0 := by decide +kernel
def f_X5_advanceRun_9 : Nat → Nat → Int32 → Int32 → Hp → Option Hp
  | 0, _, _, _, _ => none
  | n + 1, v0, v1, v2, h => (gI h v0 5 5).bind fun x1 => (gI h v0 5 2).bind fun x2 => if x2 ≤ x1 then (if v1 ≤ 0 then (if v1 = 0 then (if v2 = (1 : Int32) then ((pV h v0 5 3 (.int (2 : Int32))).bind fun h4 => some h4) else (if v2 = (2 : Int32) then ((pV h v0 5 3 (.int (2 : Int32))).bind fun h6 => some h6) else ((pV h v0 5 3 (.int (4 : Int32))).bind fun h5 => some h5))) else ((pV h v0 5 3 (.int (4 : Int32))).bind fun h3 => some h3)) else (if v2 = 0 then ((pV h v0 5 3 (.int (1 : Int32))).bind fun h11 => some h11) else (if v1 = 0 then (if v2 = (1 : Int32) then ((pV h v0 5 3 (.int (2 : Int32))).bind fun h8 => some h8) else (if v2 = (2 : Int32) then ((pV h v0 5 3 (.int (2 : Int32))).bind fun h10 => some h10) else ((pV h v0 5 3 (.int (4 : Int32))).bind fun h9 => some h9))) else ((pV h v0 5 3 (.int (4 : Int32))).bind fun h7 => some h7)))) else ((gR h v0 5 1).bind fun x12 => (gI h v0 5 5).bind fun x13 => (aI h 1 x12 x13).bind fun x14 => if x14 < (48 : Int32) then (if x14 < (97 : Int32) then (if v1 ≤ 0 then (if v1 = 0 then (if v2 = (1 : Int32) then ((pV h v0 5 3 (.int (2 : Int32))).bind fun h16 => some h16) else (if v2 = (2 : Int32) then ((pV h v0 5 3 (.int (2 : Int32))).bind fun h18 => some h18) else ((pV h v0 5 3 (.int (4 : Int32))).bind fun h17 => some h17))) else ((pV h v0 5 3 (.int (4 : Int32))).bind fun h15 => some h15)) else (if v2 = 0 then ((pV h v0 5 3 (.int (1 : Int32))).bind fun h23 => some h23) else (if v1 = 0 then (if v2 = (1 : Int32) then ((pV h v0 5 3 (.int (2 : Int32))).bind fun h20 => some h20) else (if v2 = (2 : Int32) then ((pV h v0 5 3 (.int (2 : Int32))).bind fun h22 => some h22) else ((pV h v0 5 3 (.int (4 : Int32))).bind fun h21 => some h21))) else ((pV h v0 5 3 (.int (4 : Int32))).bind fun h19 => some h19)))) else (if (122 : Int32) < x14 then (if v1 ≤ 0 then (if v1 = 0 then (if v2 = (1 : Int32) then ((pV h v0 5 3 (.int (2 : Int32))).bind fun h25 => some h25) else (if v2 = (2 : Int32) then ((pV h v0 5 3 (.int (2 : Int32))).bind fun h27 => some h27) else ((pV h v0 5 3 (.int (4 : Int32))).bind fun h26 => some h26))) else ((pV h v0 5 3 (.int (4 : Int32))).bind fun h24 => some h24)) else (if v2 = 0 then ((pV h v0 5 3 (.int (1 : Int32))).bind fun h32 => some h32) else (if v1 = 0 then (if v2 = (1 : Int32) then ((pV h v0 5 3 (.int (2 : Int32))).bind fun h29 => some h29) else (if v2 = (2 : Int32) then ((pV h v0 5 3 (.int (2 : Int32))).bind fun h31 => some h31) else ((pV h v0 5 3 (.int (4 : Int32))).bind fun h30 => some h30))) else ((pV h v0 5 3 (.int (4 : Int32))).bind fun h28 => some h28)))) else ((gI h v0 5 5).bind fun x33 => (pV h v0 5 5 (.int (x33 + (1 : Int32)))).bind fun h34 => f_X5_advanceRun_9 n v0 (v1 + (1)) v2 h34))) else (if (57 : Int32) < x14 then (if x14 < (97 : Int32) then (if v1 ≤ 0 then (if v1 = 0 then (if v2 = (1 : Int32) then ((pV h v0 5 3 (.int (2 : Int32))).bind fun h36 => some h36) else (if v2 = (2 : Int32) then ((pV h v0 5 3 (.int (2 : Int32))).bind fun h38 => some h38) else ((pV h v0 5 3 (.int (4 : Int32))).bind fun h37 => some h37))) else ((pV h v0 5 3 (.int (4 : Int32))).bind fun h35 => some h35)) else (if v2 = 0 then ((pV h v0 5 3 (.int (1 : Int32))).bind fun h43 => some h43) else (if v1 = 0 then (if v2 = (1 : Int32) then ((pV h v0 5 3 (.int (2 : Int32))).bind fun h40 => some h40) else (if v2 = (2 : Int32) then ((pV h v0 5 3 (.int (2 : Int32))).bind fun h42 => some h42) else ((pV h v0 5 3 (.int (4 : Int32))).bind fun h41 => some h41))) else ((pV h v0 5 3 (.int (4 : Int32))).bind fun h39 => some h39)))) else (if (122 : Int32) < x14 then (if v1 ≤ 0 then (if v1 = 0 then (if v2 = (1 : Int32) then ((pV h v0 5 3 (.int (2 : Int32))).bind fun h45 => some h45) else (if v2 = (2 : Int32) then ((pV h v0 5 3 (.int (2 : Int32))).bind fun h47 => some h47) else ((pV h v0 5 3 (.int (4 : Int32))).bind fun h46 => some h46))) else ((pV h v0 5 3 (.int (4 : Int32))).bind fun h44 => some h44)) else (if v2 = 0 then ((pV h v0 5 3 (.int (1 : Int32))).bind fun h52 => some h52) else (if v1 = 0 then (if v2 = (1 : Int32) then ((pV h v0 5 3 (.int (2 : Int32))).bind fun h49 => some h49) else (if v2 = (2 : Int32) then ((pV h v0 5 3 (.int (2 : Int32))).bind fun h51 => some h51) else ((pV h v0 5 3 (.int (4 : Int32))).bind fun h50 => some h50))) else ((pV h v0 5 3 (.int (4 : Int32))).bind fun h48 => some h48)))) else ((gI h v0 5 5).bind fun x53 => (pV h v0 5 5 (.int (x53 + (1 : Int32)))).bind fun h54 => f_X5_advanceRun_9 n v0 (v1 + (1)) v2 h54))) else ((gI h v0 5 6).bind fun x55 => (pV h v0 5 6 (.int (((x55 * (10 : Int32)) + x14) - (48 : Int32)))).bind fun h56 => (gI h56 v0 5 5).bind fun x57 => (pV h56 v0 5 5 (.int (x57 + (1 : Int32)))).bind fun h58 => f_X5_advanceRun_9 n v0 v1 (v2 + (1)) h58)))
set_option maxHeartbeats 4000000 in
set_option maxRecDepth 100000 in
theorem w_X5_advanceRun_9 {g : GT} {l : Launch} {r : Hp} : ∀ (n : Nat) (v0 : Nat) (v1 : Int32) (v2 : Int32) (h : Hp), f_X5_advanceRun_9 n v0 v1 v2 h = some r → PW g l m_X5_advanceRun 1 0 0 9 [some (.ref v0), some (.int v1), some (.int v2), none] [] h (fun r9 h9 => r9 = none ∧ h9 = r) := by
  intro n
  induction n with
  | zero => intro v0 v1 v2 h hf; cases hf
  | succ n ih =>
    intro v0 v1 v2 h hf
    rw [f_X5_advanceRun_9] at hf
    refine pw_aload_n dX5_advanceRun_9 rfl ?_
    refine q_gI hf rfl (by decide) w9_X5_advanceRun_X5 (by decide +kernel) dX5_advanceRun_10 (fun x1 hf => ?_)
    refine pw_aload_n dX5_advanceRun_13 rfl ?_
    refine q_gI hf rfl (by decide) w9_X5_advanceRun_X5 (by decide +kernel) dX5_advanceRun_14 (fun x2 hf => ?_)
    refine q_icmp_ge (tgt := 92) hf dX5_advanceRun_17 (by decide) (fun hf _ => ?_) (fun hf _ => ?_)
    · refine pw_iload_n dX5_advanceRun_92 rfl ?_
      refine q_if_le (tgt := 108) hf dX5_advanceRun_93 (by decide) (fun hf _ => ?_) (fun hf _ => ?_)
      · refine pw_iload_n dX5_advanceRun_108 rfl ?_
        refine q_if_ne (tgt := 130) hf dX5_advanceRun_109 (by decide) (fun hf _ => ?_) (fun hf _ => ?_)
        · refine pw_aload_n dX5_advanceRun_130 rfl ?_
          refine pw_iconst (v := (4)) dX5_advanceRun_131 (by decide) ?_
          refine q_pV (ty := .int) hf tyX5 tyX5_ok nmX5 rfl (by decide) w9_X5_advanceRun_X5 (by decide +kernel) rfl (by decide +kernel) rfl rfl dX5_advanceRun_132 (fun h3 hf => ?_)
          exact pw_vret rfl dX5_advanceRun_135 ⟨rfl, Option.some.inj hf⟩
        · refine pw_iload_n dX5_advanceRun_112 rfl ?_
          refine pw_iconst (v := (1)) dX5_advanceRun_113 (by decide) ?_
          refine q_icmp_eq (tgt := 122) hf dX5_advanceRun_114 (by decide) (fun hf _ => ?_) (fun hf _ => ?_)
          · refine pw_aload_n dX5_advanceRun_122 rfl ?_
            refine pw_iconst (v := (2)) dX5_advanceRun_123 (by decide) ?_
            refine q_pV (ty := .int) hf tyX5 tyX5_ok nmX5 rfl (by decide) w9_X5_advanceRun_X5 (by decide +kernel) rfl (by decide +kernel) rfl rfl dX5_advanceRun_124 (fun h4 hf => ?_)
            refine pw_goto (tgt := 135) dX5_advanceRun_127 (by decide) ?_
            exact pw_vret rfl dX5_advanceRun_135 ⟨rfl, Option.some.inj hf⟩
          · refine pw_iload_n dX5_advanceRun_117 rfl ?_
            refine pw_iconst (v := (2)) dX5_advanceRun_118 (by decide) ?_
            refine q_icmp_ne (tgt := 130) hf dX5_advanceRun_119 (by decide) (fun hf _ => ?_) (fun hf _ => ?_)
            · refine pw_aload_n dX5_advanceRun_130 rfl ?_
              refine pw_iconst (v := (4)) dX5_advanceRun_131 (by decide) ?_
              refine q_pV (ty := .int) hf tyX5 tyX5_ok nmX5 rfl (by decide) w9_X5_advanceRun_X5 (by decide +kernel) rfl (by decide +kernel) rfl rfl dX5_advanceRun_132 (fun h5 hf => ?_)
              exact pw_vret rfl dX5_advanceRun_135 ⟨rfl, Option.some.inj hf⟩
            · refine pw_aload_n dX5_advanceRun_122 rfl ?_
              refine pw_iconst (v := (2)) dX5_advanceRun_123 (by decide) ?_
              refine q_pV (ty := .int) hf tyX5 tyX5_ok nmX5 rfl (by decide) w9_X5_advanceRun_X5 (by decide +kernel) rfl (by decide +kernel) rfl rfl dX5_advanceRun_124 (fun h6 hf => ?_)
              refine pw_goto (tgt := 135) dX5_advanceRun_127 (by decide) ?_
              exact pw_vret rfl dX5_advanceRun_135 ⟨rfl, Option.some.inj hf⟩
      · refine pw_iload_n dX5_advanceRun_96 rfl ?_
        refine q_if_ne (tgt := 108) hf dX5_advanceRun_97 (by decide) (fun hf _ => ?_) (fun hf _ => ?_)
        · refine pw_iload_n dX5_advanceRun_108 rfl ?_
          refine q_if_ne (tgt := 130) hf dX5_advanceRun_109 (by decide) (fun hf _ => ?_) (fun hf _ => ?_)
          · refine pw_aload_n dX5_advanceRun_130 rfl ?_
            refine pw_iconst (v := (4)) dX5_advanceRun_131 (by decide) ?_
            refine q_pV (ty := .int) hf tyX5 tyX5_ok nmX5 rfl (by decide) w9_X5_advanceRun_X5 (by decide +kernel) rfl (by decide +kernel) rfl rfl dX5_advanceRun_132 (fun h7 hf => ?_)
            exact pw_vret rfl dX5_advanceRun_135 ⟨rfl, Option.some.inj hf⟩
          · refine pw_iload_n dX5_advanceRun_112 rfl ?_
            refine pw_iconst (v := (1)) dX5_advanceRun_113 (by decide) ?_
            refine q_icmp_eq (tgt := 122) hf dX5_advanceRun_114 (by decide) (fun hf _ => ?_) (fun hf _ => ?_)
            · refine pw_aload_n dX5_advanceRun_122 rfl ?_
              refine pw_iconst (v := (2)) dX5_advanceRun_123 (by decide) ?_
              refine q_pV (ty := .int) hf tyX5 tyX5_ok nmX5 rfl (by decide) w9_X5_advanceRun_X5 (by decide +kernel) rfl (by decide +kernel) rfl rfl dX5_advanceRun_124 (fun h8 hf => ?_)
              refine pw_goto (tgt := 135) dX5_advanceRun_127 (by decide) ?_
              exact pw_vret rfl dX5_advanceRun_135 ⟨rfl, Option.some.inj hf⟩
            · refine pw_iload_n dX5_advanceRun_117 rfl ?_
              refine pw_iconst (v := (2)) dX5_advanceRun_118 (by decide) ?_
              refine q_icmp_ne (tgt := 130) hf dX5_advanceRun_119 (by decide) (fun hf _ => ?_) (fun hf _ => ?_)
              · refine pw_aload_n dX5_advanceRun_130 rfl ?_
                refine pw_iconst (v := (4)) dX5_advanceRun_131 (by decide) ?_
                refine q_pV (ty := .int) hf tyX5 tyX5_ok nmX5 rfl (by decide) w9_X5_advanceRun_X5 (by decide +kernel) rfl (by decide +kernel) rfl rfl dX5_advanceRun_132 (fun h9 hf => ?_)
                exact pw_vret rfl dX5_advanceRun_135 ⟨rfl, Option.some.inj hf⟩
              · refine pw_aload_n dX5_advanceRun_122 rfl ?_
                refine pw_iconst (v := (2)) dX5_advanceRun_123 (by decide) ?_
                refine q_pV (ty := .int) hf tyX5 tyX5_ok nmX5 rfl (by decide) w9_X5_advanceRun_X5 (by decide +kernel) rfl (by decide +kernel) rfl rfl dX5_advanceRun_124 (fun h10 hf => ?_)
                refine pw_goto (tgt := 135) dX5_advanceRun_127 (by decide) ?_
                exact pw_vret rfl dX5_advanceRun_135 ⟨rfl, Option.some.inj hf⟩
        · refine pw_aload_n dX5_advanceRun_100 rfl ?_
          refine pw_iconst (v := (1)) dX5_advanceRun_101 (by decide) ?_
          refine q_pV (ty := .int) hf tyX5 tyX5_ok nmX5 rfl (by decide) w9_X5_advanceRun_X5 (by decide +kernel) rfl (by decide +kernel) rfl rfl dX5_advanceRun_102 (fun h11 hf => ?_)
          refine pw_goto (tgt := 135) dX5_advanceRun_105 (by decide) ?_
          exact pw_vret rfl dX5_advanceRun_135 ⟨rfl, Option.some.inj hf⟩
    · refine pw_aload_n dX5_advanceRun_20 rfl ?_
      refine q_gR hf rfl (by decide) w9_X5_advanceRun_X5 (by decide +kernel) dX5_advanceRun_21 (fun x12 hf => ?_)
      refine pw_aload_n dX5_advanceRun_24 rfl ?_
      refine q_gI hf rfl (by decide) w9_X5_advanceRun_X5 (by decide +kernel) dX5_advanceRun_25 (fun x13 hf => ?_)
      refine q_bald hf dX5_advanceRun_28 (fun x14 hf => ?_)
      refine pw_istore_n dX5_advanceRun_29 (by decide) rfl ?_
      dsimp only [lset, lset2, clr]
      refine pw_iload_n dX5_advanceRun_30 rfl ?_
      refine pw_bipush (v := (48)) dX5_advanceRun_31 (by decide) ?_
      refine q_icmp_lt (tgt := 64) hf dX5_advanceRun_33 (by decide) (fun hf _ => ?_) (fun hf _ => ?_)
      · refine pw_iload_n dX5_advanceRun_64 rfl ?_
        refine pw_bipush (v := (97)) dX5_advanceRun_65 (by decide) ?_
        refine q_icmp_lt (tgt := 92) hf dX5_advanceRun_67 (by decide) (fun hf _ => ?_) (fun hf _ => ?_)
        · refine pw_iload_n dX5_advanceRun_92 rfl ?_
          refine q_if_le (tgt := 108) hf dX5_advanceRun_93 (by decide) (fun hf _ => ?_) (fun hf _ => ?_)
          · refine pw_iload_n dX5_advanceRun_108 rfl ?_
            refine q_if_ne (tgt := 130) hf dX5_advanceRun_109 (by decide) (fun hf _ => ?_) (fun hf _ => ?_)
            · refine pw_aload_n dX5_advanceRun_130 rfl ?_
              refine pw_iconst (v := (4)) dX5_advanceRun_131 (by decide) ?_
              refine q_pV (ty := .int) hf tyX5 tyX5_ok nmX5 rfl (by decide) w9_X5_advanceRun_X5 (by decide +kernel) rfl (by decide +kernel) rfl rfl dX5_advanceRun_132 (fun h15 hf => ?_)
              exact pw_vret rfl dX5_advanceRun_135 ⟨rfl, Option.some.inj hf⟩
            · refine pw_iload_n dX5_advanceRun_112 rfl ?_
              refine pw_iconst (v := (1)) dX5_advanceRun_113 (by decide) ?_
              refine q_icmp_eq (tgt := 122) hf dX5_advanceRun_114 (by decide) (fun hf _ => ?_) (fun hf _ => ?_)
              · refine pw_aload_n dX5_advanceRun_122 rfl ?_
                refine pw_iconst (v := (2)) dX5_advanceRun_123 (by decide) ?_
                refine q_pV (ty := .int) hf tyX5 tyX5_ok nmX5 rfl (by decide) w9_X5_advanceRun_X5 (by decide +kernel) rfl (by decide +kernel) rfl rfl dX5_advanceRun_124 (fun h16 hf => ?_)
                refine pw_goto (tgt := 135) dX5_advanceRun_127 (by decide) ?_
                exact pw_vret rfl dX5_advanceRun_135 ⟨rfl, Option.some.inj hf⟩
              · refine pw_iload_n dX5_advanceRun_117 rfl ?_
                refine pw_iconst (v := (2)) dX5_advanceRun_118 (by decide) ?_
                refine q_icmp_ne (tgt := 130) hf dX5_advanceRun_119 (by decide) (fun hf _ => ?_) (fun hf _ => ?_)
                · refine pw_aload_n dX5_advanceRun_130 rfl ?_
                  refine pw_iconst (v := (4)) dX5_advanceRun_131 (by decide) ?_
                  refine q_pV (ty := .int) hf tyX5 tyX5_ok nmX5 rfl (by decide) w9_X5_advanceRun_X5 (by decide +kernel) rfl (by decide +kernel) rfl rfl dX5_advanceRun_132 (fun h17 hf => ?_)
                  exact pw_vret rfl dX5_advanceRun_135 ⟨rfl, Option.some.inj hf⟩
                · refine pw_aload_n dX5_advanceRun_122 rfl ?_
                  refine pw_iconst (v := (2)) dX5_advanceRun_123 (by decide) ?_
                  refine q_pV (ty := .int) hf tyX5 tyX5_ok nmX5 rfl (by decide) w9_X5_advanceRun_X5 (by decide +kernel) rfl (by decide +kernel) rfl rfl dX5_advanceRun_124 (fun h18 hf => ?_)
                  refine pw_goto (tgt := 135) dX5_advanceRun_127 (by decide) ?_
                  exact pw_vret rfl dX5_advanceRun_135 ⟨rfl, Option.some.inj hf⟩
          · refine pw_iload_n dX5_advanceRun_96 rfl ?_
            refine q_if_ne (tgt := 108) hf dX5_advanceRun_97 (by decide) (fun hf _ => ?_) (fun hf _ => ?_)
            · refine pw_iload_n dX5_advanceRun_108 rfl ?_
              refine q_if_ne (tgt := 130) hf dX5_advanceRun_109 (by decide) (fun hf _ => ?_) (fun hf _ => ?_)
              · refine pw_aload_n dX5_advanceRun_130 rfl ?_
                refine pw_iconst (v := (4)) dX5_advanceRun_131 (by decide) ?_
                refine q_pV (ty := .int) hf tyX5 tyX5_ok nmX5 rfl (by decide) w9_X5_advanceRun_X5 (by decide +kernel) rfl (by decide +kernel) rfl rfl dX5_advanceRun_132 (fun h19 hf => ?_)
                exact pw_vret rfl dX5_advanceRun_135 ⟨rfl, Option.some.inj hf⟩
              · refine pw_iload_n dX5_advanceRun_112 rfl ?_
                refine pw_iconst (v := (1)) dX5_advanceRun_113 (by decide) ?_
                refine q_icmp_eq (tgt := 122) hf dX5_advanceRun_114 (by decide) (fun hf _ => ?_) (fun hf _ => ?_)
                · refine pw_aload_n dX5_advanceRun_122 rfl ?_
                  refine pw_iconst (v := (2)) dX5_advanceRun_123 (by decide) ?_
                  refine q_pV (ty := .int) hf tyX5 tyX5_ok nmX5 rfl (by decide) w9_X5_advanceRun_X5 (by decide +kernel) rfl (by decide +kernel) rfl rfl dX5_advanceRun_124 (fun h20 hf => ?_)
                  refine pw_goto (tgt := 135) dX5_advanceRun_127 (by decide) ?_
                  exact pw_vret rfl dX5_advanceRun_135 ⟨rfl, Option.some.inj hf⟩
                · refine pw_iload_n dX5_advanceRun_117 rfl ?_
                  refine pw_iconst (v := (2)) dX5_advanceRun_118 (by decide) ?_
                  refine q_icmp_ne (tgt := 130) hf dX5_advanceRun_119 (by decide) (fun hf _ => ?_) (fun hf _ => ?_)
                  · refine pw_aload_n dX5_advanceRun_130 rfl ?_
                    refine pw_iconst (v := (4)) dX5_advanceRun_131 (by decide) ?_
                    refine q_pV (ty := .int) hf tyX5 tyX5_ok nmX5 rfl (by decide) w9_X5_advanceRun_X5 (by decide +kernel) rfl (by decide +kernel) rfl rfl dX5_advanceRun_132 (fun h21 hf => ?_)
                    exact pw_vret rfl dX5_advanceRun_135 ⟨rfl, Option.some.inj hf⟩
                  · refine pw_aload_n dX5_advanceRun_122 rfl ?_
                    refine pw_iconst (v := (2)) dX5_advanceRun_123 (by decide) ?_
                    refine q_pV (ty := .int) hf tyX5 tyX5_ok nmX5 rfl (by decide) w9_X5_advanceRun_X5 (by decide +kernel) rfl (by decide +kernel) rfl rfl dX5_advanceRun_124 (fun h22 hf => ?_)
                    refine pw_goto (tgt := 135) dX5_advanceRun_127 (by decide) ?_
                    exact pw_vret rfl dX5_advanceRun_135 ⟨rfl, Option.some.inj hf⟩
            · refine pw_aload_n dX5_advanceRun_100 rfl ?_
              refine pw_iconst (v := (1)) dX5_advanceRun_101 (by decide) ?_
              refine q_pV (ty := .int) hf tyX5 tyX5_ok nmX5 rfl (by decide) w9_X5_advanceRun_X5 (by decide +kernel) rfl (by decide +kernel) rfl rfl dX5_advanceRun_102 (fun h23 hf => ?_)
              refine pw_goto (tgt := 135) dX5_advanceRun_105 (by decide) ?_
              exact pw_vret rfl dX5_advanceRun_135 ⟨rfl, Option.some.inj hf⟩
        · refine pw_iload_n dX5_advanceRun_70 rfl ?_
          refine pw_bipush (v := (122)) dX5_advanceRun_71 (by decide) ?_
          refine q_icmp_gt (tgt := 92) hf dX5_advanceRun_73 (by decide) (fun hf _ => ?_) (fun hf _ => ?_)
          · refine pw_iload_n dX5_advanceRun_92 rfl ?_
            refine q_if_le (tgt := 108) hf dX5_advanceRun_93 (by decide) (fun hf _ => ?_) (fun hf _ => ?_)
            · refine pw_iload_n dX5_advanceRun_108 rfl ?_
              refine q_if_ne (tgt := 130) hf dX5_advanceRun_109 (by decide) (fun hf _ => ?_) (fun hf _ => ?_)
              · refine pw_aload_n dX5_advanceRun_130 rfl ?_
                refine pw_iconst (v := (4)) dX5_advanceRun_131 (by decide) ?_
                refine q_pV (ty := .int) hf tyX5 tyX5_ok nmX5 rfl (by decide) w9_X5_advanceRun_X5 (by decide +kernel) rfl (by decide +kernel) rfl rfl dX5_advanceRun_132 (fun h24 hf => ?_)
                exact pw_vret rfl dX5_advanceRun_135 ⟨rfl, Option.some.inj hf⟩
              · refine pw_iload_n dX5_advanceRun_112 rfl ?_
                refine pw_iconst (v := (1)) dX5_advanceRun_113 (by decide) ?_
                refine q_icmp_eq (tgt := 122) hf dX5_advanceRun_114 (by decide) (fun hf _ => ?_) (fun hf _ => ?_)
                · refine pw_aload_n dX5_advanceRun_122 rfl ?_
                  refine pw_iconst (v := (2)) dX5_advanceRun_123 (by decide) ?_
                  refine q_pV (ty := .int) hf tyX5 tyX5_ok nmX5 rfl (by decide) w9_X5_advanceRun_X5 (by decide +kernel) rfl (by decide +kernel) rfl rfl dX5_advanceRun_124 (fun h25 hf => ?_)
                  refine pw_goto (tgt := 135) dX5_advanceRun_127 (by decide) ?_
                  exact pw_vret rfl dX5_advanceRun_135 ⟨rfl, Option.some.inj hf⟩
                · refine pw_iload_n dX5_advanceRun_117 rfl ?_
                  refine pw_iconst (v := (2)) dX5_advanceRun_118 (by decide) ?_
                  refine q_icmp_ne (tgt := 130) hf dX5_advanceRun_119 (by decide) (fun hf _ => ?_) (fun hf _ => ?_)
                  · refine pw_aload_n dX5_advanceRun_130 rfl ?_
                    refine pw_iconst (v := (4)) dX5_advanceRun_131 (by decide) ?_
                    refine q_pV (ty := .int) hf tyX5 tyX5_ok nmX5 rfl (by decide) w9_X5_advanceRun_X5 (by decide +kernel) rfl (by decide +kernel) rfl rfl dX5_advanceRun_132 (fun h26 hf => ?_)
                    exact pw_vret rfl dX5_advanceRun_135 ⟨rfl, Option.some.inj hf⟩
                  · refine pw_aload_n dX5_advanceRun_122 rfl ?_
                    refine pw_iconst (v := (2)) dX5_advanceRun_123 (by decide) ?_
                    refine q_pV (ty := .int) hf tyX5 tyX5_ok nmX5 rfl (by decide) w9_X5_advanceRun_X5 (by decide +kernel) rfl (by decide +kernel) rfl rfl dX5_advanceRun_124 (fun h27 hf => ?_)
                    refine pw_goto (tgt := 135) dX5_advanceRun_127 (by decide) ?_
                    exact pw_vret rfl dX5_advanceRun_135 ⟨rfl, Option.some.inj hf⟩
            · refine pw_iload_n dX5_advanceRun_96 rfl ?_
              refine q_if_ne (tgt := 108) hf dX5_advanceRun_97 (by decide) (fun hf _ => ?_) (fun hf _ => ?_)
              · refine pw_iload_n dX5_advanceRun_108 rfl ?_
                refine q_if_ne (tgt := 130) hf dX5_advanceRun_109 (by decide) (fun hf _ => ?_) (fun hf _ => ?_)
                · refine pw_aload_n dX5_advanceRun_130 rfl ?_
                  refine pw_iconst (v := (4)) dX5_advanceRun_131 (by decide) ?_
                  refine q_pV (ty := .int) hf tyX5 tyX5_ok nmX5 rfl (by decide) w9_X5_advanceRun_X5 (by decide +kernel) rfl (by decide +kernel) rfl rfl dX5_advanceRun_132 (fun h28 hf => ?_)
                  exact pw_vret rfl dX5_advanceRun_135 ⟨rfl, Option.some.inj hf⟩
                · refine pw_iload_n dX5_advanceRun_112 rfl ?_
                  refine pw_iconst (v := (1)) dX5_advanceRun_113 (by decide) ?_
                  refine q_icmp_eq (tgt := 122) hf dX5_advanceRun_114 (by decide) (fun hf _ => ?_) (fun hf _ => ?_)
                  · refine pw_aload_n dX5_advanceRun_122 rfl ?_
                    refine pw_iconst (v := (2)) dX5_advanceRun_123 (by decide) ?_
                    refine q_pV (ty := .int) hf tyX5 tyX5_ok nmX5 rfl (by decide) w9_X5_advanceRun_X5 (by decide +kernel) rfl (by decide +kernel) rfl rfl dX5_advanceRun_124 (fun h29 hf => ?_)
                    refine pw_goto (tgt := 135) dX5_advanceRun_127 (by decide) ?_
                    exact pw_vret rfl dX5_advanceRun_135 ⟨rfl, Option.some.inj hf⟩
                  · refine pw_iload_n dX5_advanceRun_117 rfl ?_
                    refine pw_iconst (v := (2)) dX5_advanceRun_118 (by decide) ?_
                    refine q_icmp_ne (tgt := 130) hf dX5_advanceRun_119 (by decide) (fun hf _ => ?_) (fun hf _ => ?_)
                    · refine pw_aload_n dX5_advanceRun_130 rfl ?_
                      refine pw_iconst (v := (4)) dX5_advanceRun_131 (by decide) ?_
                      refine q_pV (ty := .int) hf tyX5 tyX5_ok nmX5 rfl (by decide) w9_X5_advanceRun_X5 (by decide +kernel) rfl (by decide +kernel) rfl rfl dX5_advanceRun_132 (fun h30 hf => ?_)
                      exact pw_vret rfl dX5_advanceRun_135 ⟨rfl, Option.some.inj hf⟩
                    · refine pw_aload_n dX5_advanceRun_122 rfl ?_
                      refine pw_iconst (v := (2)) dX5_advanceRun_123 (by decide) ?_
                      refine q_pV (ty := .int) hf tyX5 tyX5_ok nmX5 rfl (by decide) w9_X5_advanceRun_X5 (by decide +kernel) rfl (by decide +kernel) rfl rfl dX5_advanceRun_124 (fun h31 hf => ?_)
                      refine pw_goto (tgt := 135) dX5_advanceRun_127 (by decide) ?_
                      exact pw_vret rfl dX5_advanceRun_135 ⟨rfl, Option.some.inj hf⟩
              · refine pw_aload_n dX5_advanceRun_100 rfl ?_
                refine pw_iconst (v := (1)) dX5_advanceRun_101 (by decide) ?_
                refine q_pV (ty := .int) hf tyX5 tyX5_ok nmX5 rfl (by decide) w9_X5_advanceRun_X5 (by decide +kernel) rfl (by decide +kernel) rfl rfl dX5_advanceRun_102 (fun h32 hf => ?_)
                refine pw_goto (tgt := 135) dX5_advanceRun_105 (by decide) ?_
                exact pw_vret rfl dX5_advanceRun_135 ⟨rfl, Option.some.inj hf⟩
          · refine pw_iinc (v := v1 + (1)) dX5_advanceRun_76 rfl rfl (by decide) rfl ?_
            dsimp only [lset, lset2, clr]
            refine pw_aload_n dX5_advanceRun_79 rfl ?_
            refine pw_dup dX5_advanceRun_80 rfl ?_
            refine q_gI hf rfl (by decide) w9_X5_advanceRun_X5 (by decide +kernel) dX5_advanceRun_81 (fun x33 hf => ?_)
            refine pw_iconst (v := (1)) dX5_advanceRun_84 (by decide) ?_
            refine pw_iadd dX5_advanceRun_85 ?_
            refine q_pV (ty := .int) hf tyX5 tyX5_ok nmX5 rfl (by decide) w9_X5_advanceRun_X5 (by decide +kernel) rfl (by decide +kernel) rfl rfl dX5_advanceRun_86 (fun h34 hf => ?_)
            refine pw_goto (tgt := 9) dX5_advanceRun_89 (by decide) ?_
            exact pw_lo (lle_s rfl (lle_s rfl (lle_s rfl (lle_n lle_0)))) (ih _ _ _ _ hf)
      · refine pw_iload_n dX5_advanceRun_36 rfl ?_
        refine pw_bipush (v := (57)) dX5_advanceRun_37 (by decide) ?_
        refine q_icmp_gt (tgt := 64) hf dX5_advanceRun_39 (by decide) (fun hf _ => ?_) (fun hf _ => ?_)
        · refine pw_iload_n dX5_advanceRun_64 rfl ?_
          refine pw_bipush (v := (97)) dX5_advanceRun_65 (by decide) ?_
          refine q_icmp_lt (tgt := 92) hf dX5_advanceRun_67 (by decide) (fun hf _ => ?_) (fun hf _ => ?_)
          · refine pw_iload_n dX5_advanceRun_92 rfl ?_
            refine q_if_le (tgt := 108) hf dX5_advanceRun_93 (by decide) (fun hf _ => ?_) (fun hf _ => ?_)
            · refine pw_iload_n dX5_advanceRun_108 rfl ?_
              refine q_if_ne (tgt := 130) hf dX5_advanceRun_109 (by decide) (fun hf _ => ?_) (fun hf _ => ?_)
              · refine pw_aload_n dX5_advanceRun_130 rfl ?_
                refine pw_iconst (v := (4)) dX5_advanceRun_131 (by decide) ?_
                refine q_pV (ty := .int) hf tyX5 tyX5_ok nmX5 rfl (by decide) w9_X5_advanceRun_X5 (by decide +kernel) rfl (by decide +kernel) rfl rfl dX5_advanceRun_132 (fun h35 hf => ?_)
                exact pw_vret rfl dX5_advanceRun_135 ⟨rfl, Option.some.inj hf⟩
              · refine pw_iload_n dX5_advanceRun_112 rfl ?_
                refine pw_iconst (v := (1)) dX5_advanceRun_113 (by decide) ?_
                refine q_icmp_eq (tgt := 122) hf dX5_advanceRun_114 (by decide) (fun hf _ => ?_) (fun hf _ => ?_)
                · refine pw_aload_n dX5_advanceRun_122 rfl ?_
                  refine pw_iconst (v := (2)) dX5_advanceRun_123 (by decide) ?_
                  refine q_pV (ty := .int) hf tyX5 tyX5_ok nmX5 rfl (by decide) w9_X5_advanceRun_X5 (by decide +kernel) rfl (by decide +kernel) rfl rfl dX5_advanceRun_124 (fun h36 hf => ?_)
                  refine pw_goto (tgt := 135) dX5_advanceRun_127 (by decide) ?_
                  exact pw_vret rfl dX5_advanceRun_135 ⟨rfl, Option.some.inj hf⟩
                · refine pw_iload_n dX5_advanceRun_117 rfl ?_
                  refine pw_iconst (v := (2)) dX5_advanceRun_118 (by decide) ?_
                  refine q_icmp_ne (tgt := 130) hf dX5_advanceRun_119 (by decide) (fun hf _ => ?_) (fun hf _ => ?_)
                  · refine pw_aload_n dX5_advanceRun_130 rfl ?_
                    refine pw_iconst (v := (4)) dX5_advanceRun_131 (by decide) ?_
                    refine q_pV (ty := .int) hf tyX5 tyX5_ok nmX5 rfl (by decide) w9_X5_advanceRun_X5 (by decide +kernel) rfl (by decide +kernel) rfl rfl dX5_advanceRun_132 (fun h37 hf => ?_)
                    exact pw_vret rfl dX5_advanceRun_135 ⟨rfl, Option.some.inj hf⟩
                  · refine pw_aload_n dX5_advanceRun_122 rfl ?_
                    refine pw_iconst (v := (2)) dX5_advanceRun_123 (by decide) ?_
                    refine q_pV (ty := .int) hf tyX5 tyX5_ok nmX5 rfl (by decide) w9_X5_advanceRun_X5 (by decide +kernel) rfl (by decide +kernel) rfl rfl dX5_advanceRun_124 (fun h38 hf => ?_)
                    refine pw_goto (tgt := 135) dX5_advanceRun_127 (by decide) ?_
                    exact pw_vret rfl dX5_advanceRun_135 ⟨rfl, Option.some.inj hf⟩
            · refine pw_iload_n dX5_advanceRun_96 rfl ?_
              refine q_if_ne (tgt := 108) hf dX5_advanceRun_97 (by decide) (fun hf _ => ?_) (fun hf _ => ?_)
              · refine pw_iload_n dX5_advanceRun_108 rfl ?_
                refine q_if_ne (tgt := 130) hf dX5_advanceRun_109 (by decide) (fun hf _ => ?_) (fun hf _ => ?_)
                · refine pw_aload_n dX5_advanceRun_130 rfl ?_
                  refine pw_iconst (v := (4)) dX5_advanceRun_131 (by decide) ?_
                  refine q_pV (ty := .int) hf tyX5 tyX5_ok nmX5 rfl (by decide) w9_X5_advanceRun_X5 (by decide +kernel) rfl (by decide +kernel) rfl rfl dX5_advanceRun_132 (fun h39 hf => ?_)
                  exact pw_vret rfl dX5_advanceRun_135 ⟨rfl, Option.some.inj hf⟩
                · refine pw_iload_n dX5_advanceRun_112 rfl ?_
                  refine pw_iconst (v := (1)) dX5_advanceRun_113 (by decide) ?_
                  refine q_icmp_eq (tgt := 122) hf dX5_advanceRun_114 (by decide) (fun hf _ => ?_) (fun hf _ => ?_)
                  · refine pw_aload_n dX5_advanceRun_122 rfl ?_
                    refine pw_iconst (v := (2)) dX5_advanceRun_123 (by decide) ?_
                    refine q_pV (ty := .int) hf tyX5 tyX5_ok nmX5 rfl (by decide) w9_X5_advanceRun_X5 (by decide +kernel) rfl (by decide +kernel) rfl rfl dX5_advanceRun_124 (fun h40 hf => ?_)
                    refine pw_goto (tgt := 135) dX5_advanceRun_127 (by decide) ?_
                    exact pw_vret rfl dX5_advanceRun_135 ⟨rfl, Option.some.inj hf⟩
                  · refine pw_iload_n dX5_advanceRun_117 rfl ?_
                    refine pw_iconst (v := (2)) dX5_advanceRun_118 (by decide) ?_
                    refine q_icmp_ne (tgt := 130) hf dX5_advanceRun_119 (by decide) (fun hf _ => ?_) (fun hf _ => ?_)
                    · refine pw_aload_n dX5_advanceRun_130 rfl ?_
                      refine pw_iconst (v := (4)) dX5_advanceRun_131 (by decide) ?_
                      refine q_pV (ty := .int) hf tyX5 tyX5_ok nmX5 rfl (by decide) w9_X5_advanceRun_X5 (by decide +kernel) rfl (by decide +kernel) rfl rfl dX5_advanceRun_132 (fun h41 hf => ?_)
                      exact pw_vret rfl dX5_advanceRun_135 ⟨rfl, Option.some.inj hf⟩
                    · refine pw_aload_n dX5_advanceRun_122 rfl ?_
                      refine pw_iconst (v := (2)) dX5_advanceRun_123 (by decide) ?_
                      refine q_pV (ty := .int) hf tyX5 tyX5_ok nmX5 rfl (by decide) w9_X5_advanceRun_X5 (by decide +kernel) rfl (by decide +kernel) rfl rfl dX5_advanceRun_124 (fun h42 hf => ?_)
                      refine pw_goto (tgt := 135) dX5_advanceRun_127 (by decide) ?_
                      exact pw_vret rfl dX5_advanceRun_135 ⟨rfl, Option.some.inj hf⟩
              · refine pw_aload_n dX5_advanceRun_100 rfl ?_
                refine pw_iconst (v := (1)) dX5_advanceRun_101 (by decide) ?_
                refine q_pV (ty := .int) hf tyX5 tyX5_ok nmX5 rfl (by decide) w9_X5_advanceRun_X5 (by decide +kernel) rfl (by decide +kernel) rfl rfl dX5_advanceRun_102 (fun h43 hf => ?_)
                refine pw_goto (tgt := 135) dX5_advanceRun_105 (by decide) ?_
                exact pw_vret rfl dX5_advanceRun_135 ⟨rfl, Option.some.inj hf⟩
          · refine pw_iload_n dX5_advanceRun_70 rfl ?_
            refine pw_bipush (v := (122)) dX5_advanceRun_71 (by decide) ?_
            refine q_icmp_gt (tgt := 92) hf dX5_advanceRun_73 (by decide) (fun hf _ => ?_) (fun hf _ => ?_)
            · refine pw_iload_n dX5_advanceRun_92 rfl ?_
              refine q_if_le (tgt := 108) hf dX5_advanceRun_93 (by decide) (fun hf _ => ?_) (fun hf _ => ?_)
              · refine pw_iload_n dX5_advanceRun_108 rfl ?_
                refine q_if_ne (tgt := 130) hf dX5_advanceRun_109 (by decide) (fun hf _ => ?_) (fun hf _ => ?_)
                · refine pw_aload_n dX5_advanceRun_130 rfl ?_
                  refine pw_iconst (v := (4)) dX5_advanceRun_131 (by decide) ?_
                  refine q_pV (ty := .int) hf tyX5 tyX5_ok nmX5 rfl (by decide) w9_X5_advanceRun_X5 (by decide +kernel) rfl (by decide +kernel) rfl rfl dX5_advanceRun_132 (fun h44 hf => ?_)
                  exact pw_vret rfl dX5_advanceRun_135 ⟨rfl, Option.some.inj hf⟩
                · refine pw_iload_n dX5_advanceRun_112 rfl ?_
                  refine pw_iconst (v := (1)) dX5_advanceRun_113 (by decide) ?_
                  refine q_icmp_eq (tgt := 122) hf dX5_advanceRun_114 (by decide) (fun hf _ => ?_) (fun hf _ => ?_)
                  · refine pw_aload_n dX5_advanceRun_122 rfl ?_
                    refine pw_iconst (v := (2)) dX5_advanceRun_123 (by decide) ?_
                    refine q_pV (ty := .int) hf tyX5 tyX5_ok nmX5 rfl (by decide) w9_X5_advanceRun_X5 (by decide +kernel) rfl (by decide +kernel) rfl rfl dX5_advanceRun_124 (fun h45 hf => ?_)
                    refine pw_goto (tgt := 135) dX5_advanceRun_127 (by decide) ?_
                    exact pw_vret rfl dX5_advanceRun_135 ⟨rfl, Option.some.inj hf⟩
                  · refine pw_iload_n dX5_advanceRun_117 rfl ?_
                    refine pw_iconst (v := (2)) dX5_advanceRun_118 (by decide) ?_
                    refine q_icmp_ne (tgt := 130) hf dX5_advanceRun_119 (by decide) (fun hf _ => ?_) (fun hf _ => ?_)
                    · refine pw_aload_n dX5_advanceRun_130 rfl ?_
                      refine pw_iconst (v := (4)) dX5_advanceRun_131 (by decide) ?_
                      refine q_pV (ty := .int) hf tyX5 tyX5_ok nmX5 rfl (by decide) w9_X5_advanceRun_X5 (by decide +kernel) rfl (by decide +kernel) rfl rfl dX5_advanceRun_132 (fun h46 hf => ?_)
                      exact pw_vret rfl dX5_advanceRun_135 ⟨rfl, Option.some.inj hf⟩
                    · refine pw_aload_n dX5_advanceRun_122 rfl ?_
                      refine pw_iconst (v := (2)) dX5_advanceRun_123 (by decide) ?_
                      refine q_pV (ty := .int) hf tyX5 tyX5_ok nmX5 rfl (by decide) w9_X5_advanceRun_X5 (by decide +kernel) rfl (by decide +kernel) rfl rfl dX5_advanceRun_124 (fun h47 hf => ?_)
                      refine pw_goto (tgt := 135) dX5_advanceRun_127 (by decide) ?_
                      exact pw_vret rfl dX5_advanceRun_135 ⟨rfl, Option.some.inj hf⟩
              · refine pw_iload_n dX5_advanceRun_96 rfl ?_
                refine q_if_ne (tgt := 108) hf dX5_advanceRun_97 (by decide) (fun hf _ => ?_) (fun hf _ => ?_)
                · refine pw_iload_n dX5_advanceRun_108 rfl ?_
                  refine q_if_ne (tgt := 130) hf dX5_advanceRun_109 (by decide) (fun hf _ => ?_) (fun hf _ => ?_)
                  · refine pw_aload_n dX5_advanceRun_130 rfl ?_
                    refine pw_iconst (v := (4)) dX5_advanceRun_131 (by decide) ?_
                    refine q_pV (ty := .int) hf tyX5 tyX5_ok nmX5 rfl (by decide) w9_X5_advanceRun_X5 (by decide +kernel) rfl (by decide +kernel) rfl rfl dX5_advanceRun_132 (fun h48 hf => ?_)
                    exact pw_vret rfl dX5_advanceRun_135 ⟨rfl, Option.some.inj hf⟩
                  · refine pw_iload_n dX5_advanceRun_112 rfl ?_
                    refine pw_iconst (v := (1)) dX5_advanceRun_113 (by decide) ?_
                    refine q_icmp_eq (tgt := 122) hf dX5_advanceRun_114 (by decide) (fun hf _ => ?_) (fun hf _ => ?_)
                    · refine pw_aload_n dX5_advanceRun_122 rfl ?_
                      refine pw_iconst (v := (2)) dX5_advanceRun_123 (by decide) ?_
                      refine q_pV (ty := .int) hf tyX5 tyX5_ok nmX5 rfl (by decide) w9_X5_advanceRun_X5 (by decide +kernel) rfl (by decide +kernel) rfl rfl dX5_advanceRun_124 (fun h49 hf => ?_)
                      refine pw_goto (tgt := 135) dX5_advanceRun_127 (by decide) ?_
                      exact pw_vret rfl dX5_advanceRun_135 ⟨rfl, Option.some.inj hf⟩
                    · refine pw_iload_n dX5_advanceRun_117 rfl ?_
                      refine pw_iconst (v := (2)) dX5_advanceRun_118 (by decide) ?_
                      refine q_icmp_ne (tgt := 130) hf dX5_advanceRun_119 (by decide) (fun hf _ => ?_) (fun hf _ => ?_)
                      · refine pw_aload_n dX5_advanceRun_130 rfl ?_
                        refine pw_iconst (v := (4)) dX5_advanceRun_131 (by decide) ?_
                        refine q_pV (ty := .int) hf tyX5 tyX5_ok nmX5 rfl (by decide) w9_X5_advanceRun_X5 (by decide +kernel) rfl (by decide +kernel) rfl rfl dX5_advanceRun_132 (fun h50 hf => ?_)
                        exact pw_vret rfl dX5_advanceRun_135 ⟨rfl, Option.some.inj hf⟩
                      · refine pw_aload_n dX5_advanceRun_122 rfl ?_
                        refine pw_iconst (v := (2)) dX5_advanceRun_123 (by decide) ?_
                        refine q_pV (ty := .int) hf tyX5 tyX5_ok nmX5 rfl (by decide) w9_X5_advanceRun_X5 (by decide +kernel) rfl (by decide +kernel) rfl rfl dX5_advanceRun_124 (fun h51 hf => ?_)
                        refine pw_goto (tgt := 135) dX5_advanceRun_127 (by decide) ?_
                        exact pw_vret rfl dX5_advanceRun_135 ⟨rfl, Option.some.inj hf⟩
                · refine pw_aload_n dX5_advanceRun_100 rfl ?_
                  refine pw_iconst (v := (1)) dX5_advanceRun_101 (by decide) ?_
                  refine q_pV (ty := .int) hf tyX5 tyX5_ok nmX5 rfl (by decide) w9_X5_advanceRun_X5 (by decide +kernel) rfl (by decide +kernel) rfl rfl dX5_advanceRun_102 (fun h52 hf => ?_)
                  refine pw_goto (tgt := 135) dX5_advanceRun_105 (by decide) ?_
                  exact pw_vret rfl dX5_advanceRun_135 ⟨rfl, Option.some.inj hf⟩
            · refine pw_iinc (v := v1 + (1)) dX5_advanceRun_76 rfl rfl (by decide) rfl ?_
              dsimp only [lset, lset2, clr]
              refine pw_aload_n dX5_advanceRun_79 rfl ?_
              refine pw_dup dX5_advanceRun_80 rfl ?_
              refine q_gI hf rfl (by decide) w9_X5_advanceRun_X5 (by decide +kernel) dX5_advanceRun_81 (fun x53 hf => ?_)
              refine pw_iconst (v := (1)) dX5_advanceRun_84 (by decide) ?_
              refine pw_iadd dX5_advanceRun_85 ?_
              refine q_pV (ty := .int) hf tyX5 tyX5_ok nmX5 rfl (by decide) w9_X5_advanceRun_X5 (by decide +kernel) rfl (by decide +kernel) rfl rfl dX5_advanceRun_86 (fun h54 hf => ?_)
              refine pw_goto (tgt := 9) dX5_advanceRun_89 (by decide) ?_
              exact pw_lo (lle_s rfl (lle_s rfl (lle_s rfl (lle_n lle_0)))) (ih _ _ _ _ hf)
        · refine pw_iinc (v := v2 + (1)) dX5_advanceRun_42 rfl rfl (by decide) rfl ?_
          dsimp only [lset, lset2, clr]
          refine pw_aload_n dX5_advanceRun_45 rfl ?_
          refine pw_aload_n dX5_advanceRun_46 rfl ?_
          refine q_gI hf rfl (by decide) w9_X5_advanceRun_X5 (by decide +kernel) dX5_advanceRun_47 (fun x55 hf => ?_)
          refine pw_bipush (v := (10)) dX5_advanceRun_50 (by decide) ?_
          refine pw_imul dX5_advanceRun_52 ?_
          refine pw_iload_n dX5_advanceRun_53 rfl ?_
          refine pw_iadd dX5_advanceRun_54 ?_
          refine pw_bipush (v := (48)) dX5_advanceRun_55 (by decide) ?_
          refine pw_isub dX5_advanceRun_57 ?_
          refine q_pV (ty := .int) hf tyX5 tyX5_ok nmX5 rfl (by decide) w9_X5_advanceRun_X5 (by decide +kernel) rfl (by decide +kernel) rfl rfl dX5_advanceRun_58 (fun h56 hf => ?_)
          refine pw_goto (tgt := 79) dX5_advanceRun_61 (by decide) ?_
          refine pw_aload_n dX5_advanceRun_79 rfl ?_
          refine pw_dup dX5_advanceRun_80 rfl ?_
          refine q_gI hf rfl (by decide) w9_X5_advanceRun_X5 (by decide +kernel) dX5_advanceRun_81 (fun x57 hf => ?_)
          refine pw_iconst (v := (1)) dX5_advanceRun_84 (by decide) ?_
          refine pw_iadd dX5_advanceRun_85 ?_
          refine q_pV (ty := .int) hf tyX5 tyX5_ok nmX5 rfl (by decide) w9_X5_advanceRun_X5 (by decide +kernel) rfl (by decide +kernel) rfl rfl dX5_advanceRun_86 (fun h58 hf => ?_)
          refine pw_goto (tgt := 9) dX5_advanceRun_89 (by decide) ?_
          exact pw_lo (lle_s rfl (lle_s rfl (lle_s rfl (lle_n lle_0)))) (ih _ _ _ _ hf)
def f_X5_advanceRun (h : Hp) (a0 : Nat) : Option Hp := (pV h a0 5 6 (.int (0 : Int32))).bind fun h1 => f_X5_advanceRun_9 4096 a0 (0 : Int32) (0 : Int32) h1
set_option maxHeartbeats 4000000 in
set_option maxRecDepth 100000 in
theorem t_X5_advanceRun {g : GT} {l : Launch} {h : Hp} {a0 : Nat} {r : Hp} (hf : f_X5_advanceRun h a0 = some r) : PM g l 1 0 0 yX5_advanceRun wsX5_advanceRun [.ref a0] h (fun r9 h9 => r9 = none ∧ h9 = r) := by
  refine pm_of (M := m_X5_advanceRun) (by decide) rfl rfl rfl (Nat.le_of_ble_eq_true rfl) (lo := [some (.ref a0), none, none, none]) rfl ?_
  rw [f_X5_advanceRun] at hf
  refine pw_iconst (v := (0)) dX5_advanceRun_0 (by decide) ?_
  refine pw_istore_n dX5_advanceRun_1 (by decide) rfl ?_
  dsimp only [lset, lset2, clr]
  refine pw_iconst (v := (0)) dX5_advanceRun_2 (by decide) ?_
  refine pw_istore_n dX5_advanceRun_3 (by decide) rfl ?_
  dsimp only [lset, lset2, clr]
  refine pw_aload_n dX5_advanceRun_4 rfl ?_
  refine pw_iconst (v := (0)) dX5_advanceRun_5 (by decide) ?_
  refine q_pV (ty := .int) hf tyX5 tyX5_ok nmX5 rfl (by decide) w9_X5_advanceRun_X5 (by decide +kernel) rfl (by decide +kernel) rfl rfl dX5_advanceRun_6 (fun h1 hf => ?_)
  exact pw_lo (lle_s rfl (lle_s rfl (lle_s rfl (lle_n lle_0)))) (w_X5_advanceRun_9 4096 _ _ _ _ hf)
/-! X5_advance -/
abbrev m_X5_advance : MD := (cX5_advance, RX5, "advance", wsX5_advance, 1, none)
theorem w9_X5_advance_X5 : ∀ w ∈ u_ws RX5 TX5 9, w ∈ wsX5_advance := by decide +kernel
theorem hd9_X5_advance : yX5_advance.cls = RX5 ∧ yX5_advance.cls ≠ "java/lang/invoke/MethodHandle" ∧ yX5_advance.cls ≠ "java/lang/invoke/VarHandle" ∧ (parseMethodDescriptor yX5_advance.desc).map (fun d => d.parameters.length) = some 0 := by decide +kernel
def f_X5_advance_0 : Nat → Nat → Hp → Option Hp
  | 0, _, _ => none
  | n + 1, v0, h => (gI h v0 5 5).bind fun x1 => (gI h v0 5 2).bind fun x2 => if x2 ≤ x1 then ((gI h v0 5 5).bind fun x3 => (pV h v0 5 4 (.int x3)).bind fun h4 => (gI h4 v0 5 2).bind fun x5 => if x5 ≤ (300 : Int32) then ((gI h4 v0 5 4).bind fun x6 => (gI h4 v0 5 2).bind fun x7 => if x6 < x7 then ((gR h4 v0 5 1).bind fun x8 => (gI h4 v0 5 4).bind fun x9 => (aI h4 1 x8 x9).bind fun x10 => if x10 = (59 : Int32) then ((pV h4 v0 5 3 (.int (3 : Int32))).bind fun h12 => (gI h12 v0 5 5).bind fun x13 => (pV h12 v0 5 5 (.int (x13 + (1 : Int32)))).bind fun h14 => some h14) else (if oK h4 v0 5 = true then (f_X5_advanceRun h4 v0).bind fun h11 => some h11 else none)) else ((pV h4 v0 5 3 (.int (0 : Int32))).bind fun h15 => some h15)) else ((gI h4 v0 5 4).bind fun x16 => if x16 < (300 : Int32) then ((gI h4 v0 5 4).bind fun x17 => (gI h4 v0 5 2).bind fun x18 => if x17 < x18 then ((gR h4 v0 5 1).bind fun x19 => (gI h4 v0 5 4).bind fun x20 => (aI h4 1 x19 x20).bind fun x21 => if x21 = (59 : Int32) then ((pV h4 v0 5 3 (.int (3 : Int32))).bind fun h23 => (gI h23 v0 5 5).bind fun x24 => (pV h23 v0 5 5 (.int (x24 + (1 : Int32)))).bind fun h25 => some h25) else (if oK h4 v0 5 = true then (f_X5_advanceRun h4 v0).bind fun h22 => some h22 else none)) else ((pV h4 v0 5 3 (.int (0 : Int32))).bind fun h26 => some h26)) else ((pV h4 v0 5 4 (.int (300 : Int32))).bind fun h27 => (pV h27 v0 5 3 (.int (4 : Int32))).bind fun h28 => some h28))) else ((gR h v0 5 1).bind fun x29 => (gI h v0 5 5).bind fun x30 => (aI h 1 x29 x30).bind fun x31 => if x31 = (32 : Int32) then ((gI h v0 5 5).bind fun x32 => (pV h v0 5 5 (.int (x32 + (1 : Int32)))).bind fun h33 => f_X5_advance_0 n v0 h33) else ((gR h v0 5 1).bind fun x34 => (gI h v0 5 5).bind fun x35 => (aI h 1 x34 x35).bind fun x36 => if x36 = (10 : Int32) then ((gI h v0 5 5).bind fun x63 => (pV h v0 5 5 (.int (x63 + (1 : Int32)))).bind fun h64 => f_X5_advance_0 n v0 h64) else ((gI h v0 5 5).bind fun x37 => (pV h v0 5 4 (.int x37)).bind fun h38 => (gI h38 v0 5 2).bind fun x39 => if x39 ≤ (300 : Int32) then ((gI h38 v0 5 4).bind fun x40 => (gI h38 v0 5 2).bind fun x41 => if x40 < x41 then ((gR h38 v0 5 1).bind fun x42 => (gI h38 v0 5 4).bind fun x43 => (aI h38 1 x42 x43).bind fun x44 => if x44 = (59 : Int32) then ((pV h38 v0 5 3 (.int (3 : Int32))).bind fun h46 => (gI h46 v0 5 5).bind fun x47 => (pV h46 v0 5 5 (.int (x47 + (1 : Int32)))).bind fun h48 => some h48) else (if oK h38 v0 5 = true then (f_X5_advanceRun h38 v0).bind fun h45 => some h45 else none)) else ((pV h38 v0 5 3 (.int (0 : Int32))).bind fun h49 => some h49)) else ((gI h38 v0 5 4).bind fun x50 => if x50 < (300 : Int32) then ((gI h38 v0 5 4).bind fun x51 => (gI h38 v0 5 2).bind fun x52 => if x51 < x52 then ((gR h38 v0 5 1).bind fun x53 => (gI h38 v0 5 4).bind fun x54 => (aI h38 1 x53 x54).bind fun x55 => if x55 = (59 : Int32) then ((pV h38 v0 5 3 (.int (3 : Int32))).bind fun h57 => (gI h57 v0 5 5).bind fun x58 => (pV h57 v0 5 5 (.int (x58 + (1 : Int32)))).bind fun h59 => some h59) else (if oK h38 v0 5 = true then (f_X5_advanceRun h38 v0).bind fun h56 => some h56 else none)) else ((pV h38 v0 5 3 (.int (0 : Int32))).bind fun h60 => some h60)) else ((pV h38 v0 5 4 (.int (300 : Int32))).bind fun h61 => (pV h61 v0 5 3 (.int (4 : Int32))).bind fun h62 => some h62)))))
set_option maxHeartbeats 4000000 in
set_option maxRecDepth 100000 in
theorem w_X5_advance_0 {g : GT} {l : Launch} {r : Hp} : ∀ (n : Nat) (v0 : Nat) (h : Hp), f_X5_advance_0 n v0 h = some r → PW g l m_X5_advance 2 0 0 0 [some (.ref v0)] [] h (fun r9 h9 => r9 = none ∧ h9 = r) := by
  intro n
  induction n with
  | zero => intro v0 h hf; cases hf
  | succ n ih =>
    intro v0 h hf
    rw [f_X5_advance_0] at hf
    refine pw_aload_n dX5_advance_0 rfl ?_
    refine q_gI hf rfl (by decide) w9_X5_advance_X5 (by decide +kernel) dX5_advance_1 (fun x1 hf => ?_)
    refine pw_aload_n dX5_advance_4 rfl ?_
    refine q_gI hf rfl (by decide) w9_X5_advance_X5 (by decide +kernel) dX5_advance_5 (fun x2 hf => ?_)
    refine q_icmp_ge (tgt := 52) hf dX5_advance_8 (by decide) (fun hf _ => ?_) (fun hf _ => ?_)
    · refine pw_aload_n dX5_advance_52 rfl ?_
      refine pw_aload_n dX5_advance_53 rfl ?_
      refine q_gI hf rfl (by decide) w9_X5_advance_X5 (by decide +kernel) dX5_advance_54 (fun x3 hf => ?_)
      refine q_pV (ty := .int) hf tyX5 tyX5_ok nmX5 rfl (by decide) w9_X5_advance_X5 (by decide +kernel) rfl (by decide +kernel) rfl rfl dX5_advance_57 (fun h4 hf => ?_)
      refine pw_aload_n dX5_advance_60 rfl ?_
      refine q_gI hf rfl (by decide) w9_X5_advance_X5 (by decide +kernel) dX5_advance_61 (fun x5 hf => ?_)
      refine pw_sipush (v := (300)) dX5_advance_64 (by decide) ?_
      refine q_icmp_le (tgt := 95) hf dX5_advance_67 (by decide) (fun hf _ => ?_) (fun hf _ => ?_)
      · refine pw_aload_n dX5_advance_95 rfl ?_
        refine q_gI hf rfl (by decide) w9_X5_advance_X5 (by decide +kernel) dX5_advance_96 (fun x6 hf => ?_)
        refine pw_aload_n dX5_advance_99 rfl ?_
        refine q_gI hf rfl (by decide) w9_X5_advance_X5 (by decide +kernel) dX5_advance_100 (fun x7 hf => ?_)
        refine q_icmp_lt (tgt := 114) hf dX5_advance_103 (by decide) (fun hf _ => ?_) (fun hf _ => ?_)
        · refine pw_aload_n dX5_advance_114 rfl ?_
          refine q_gR hf rfl (by decide) w9_X5_advance_X5 (by decide +kernel) dX5_advance_115 (fun x8 hf => ?_)
          refine pw_aload_n dX5_advance_118 rfl ?_
          refine q_gI hf rfl (by decide) w9_X5_advance_X5 (by decide +kernel) dX5_advance_119 (fun x9 hf => ?_)
          refine q_bald hf dX5_advance_122 (fun x10 hf => ?_)
          refine pw_bipush (v := (59)) dX5_advance_123 (by decide) ?_
          refine q_icmp_ne (tgt := 146) hf dX5_advance_125 (by decide) (fun hf _ => ?_) (fun hf _ => ?_)
          · refine pw_aload_n dX5_advance_146 rfl ?_
            refine q_callV_v (kc2 := 0) (ks2 := 0) (as := []) (rest := []) hf (fun x9 e9 => t_X5_advanceRun e9) gX5_advance_X5_advanceRun rfl hd9_X5_advanceRun rfl rfl ⟨(by decide), by decide⟩ ⟨rfl, rfl⟩ (Nat.le_of_ble_eq_true rfl) dX5_advance_147 rfl (fun h11 hf => ?_)
            exact pw_vret rfl dX5_advance_150 ⟨rfl, Option.some.inj hf⟩
          · refine pw_aload_n dX5_advance_128 rfl ?_
            refine pw_iconst (v := (3)) dX5_advance_129 (by decide) ?_
            refine q_pV (ty := .int) hf tyX5 tyX5_ok nmX5 rfl (by decide) w9_X5_advance_X5 (by decide +kernel) rfl (by decide +kernel) rfl rfl dX5_advance_130 (fun h12 hf => ?_)
            refine pw_aload_n dX5_advance_133 rfl ?_
            refine pw_dup dX5_advance_134 rfl ?_
            refine q_gI hf rfl (by decide) w9_X5_advance_X5 (by decide +kernel) dX5_advance_135 (fun x13 hf => ?_)
            refine pw_iconst (v := (1)) dX5_advance_138 (by decide) ?_
            refine pw_iadd dX5_advance_139 ?_
            refine q_pV (ty := .int) hf tyX5 tyX5_ok nmX5 rfl (by decide) w9_X5_advance_X5 (by decide +kernel) rfl (by decide +kernel) rfl rfl dX5_advance_140 (fun h14 hf => ?_)
            refine pw_goto (tgt := 150) dX5_advance_143 (by decide) ?_
            exact pw_vret rfl dX5_advance_150 ⟨rfl, Option.some.inj hf⟩
        · refine pw_aload_n dX5_advance_106 rfl ?_
          refine pw_iconst (v := (0)) dX5_advance_107 (by decide) ?_
          refine q_pV (ty := .int) hf tyX5 tyX5_ok nmX5 rfl (by decide) w9_X5_advance_X5 (by decide +kernel) rfl (by decide +kernel) rfl rfl dX5_advance_108 (fun h15 hf => ?_)
          refine pw_goto (tgt := 150) dX5_advance_111 (by decide) ?_
          exact pw_vret rfl dX5_advance_150 ⟨rfl, Option.some.inj hf⟩
      · refine pw_aload_n dX5_advance_70 rfl ?_
        refine q_gI hf rfl (by decide) w9_X5_advance_X5 (by decide +kernel) dX5_advance_71 (fun x16 hf => ?_)
        refine pw_sipush (v := (300)) dX5_advance_74 (by decide) ?_
        refine q_icmp_lt (tgt := 95) hf dX5_advance_77 (by decide) (fun hf _ => ?_) (fun hf _ => ?_)
        · refine pw_aload_n dX5_advance_95 rfl ?_
          refine q_gI hf rfl (by decide) w9_X5_advance_X5 (by decide +kernel) dX5_advance_96 (fun x17 hf => ?_)
          refine pw_aload_n dX5_advance_99 rfl ?_
          refine q_gI hf rfl (by decide) w9_X5_advance_X5 (by decide +kernel) dX5_advance_100 (fun x18 hf => ?_)
          refine q_icmp_lt (tgt := 114) hf dX5_advance_103 (by decide) (fun hf _ => ?_) (fun hf _ => ?_)
          · refine pw_aload_n dX5_advance_114 rfl ?_
            refine q_gR hf rfl (by decide) w9_X5_advance_X5 (by decide +kernel) dX5_advance_115 (fun x19 hf => ?_)
            refine pw_aload_n dX5_advance_118 rfl ?_
            refine q_gI hf rfl (by decide) w9_X5_advance_X5 (by decide +kernel) dX5_advance_119 (fun x20 hf => ?_)
            refine q_bald hf dX5_advance_122 (fun x21 hf => ?_)
            refine pw_bipush (v := (59)) dX5_advance_123 (by decide) ?_
            refine q_icmp_ne (tgt := 146) hf dX5_advance_125 (by decide) (fun hf _ => ?_) (fun hf _ => ?_)
            · refine pw_aload_n dX5_advance_146 rfl ?_
              refine q_callV_v (kc2 := 0) (ks2 := 0) (as := []) (rest := []) hf (fun x9 e9 => t_X5_advanceRun e9) gX5_advance_X5_advanceRun rfl hd9_X5_advanceRun rfl rfl ⟨(by decide), by decide⟩ ⟨rfl, rfl⟩ (Nat.le_of_ble_eq_true rfl) dX5_advance_147 rfl (fun h22 hf => ?_)
              exact pw_vret rfl dX5_advance_150 ⟨rfl, Option.some.inj hf⟩
            · refine pw_aload_n dX5_advance_128 rfl ?_
              refine pw_iconst (v := (3)) dX5_advance_129 (by decide) ?_
              refine q_pV (ty := .int) hf tyX5 tyX5_ok nmX5 rfl (by decide) w9_X5_advance_X5 (by decide +kernel) rfl (by decide +kernel) rfl rfl dX5_advance_130 (fun h23 hf => ?_)
              refine pw_aload_n dX5_advance_133 rfl ?_
              refine pw_dup dX5_advance_134 rfl ?_
              refine q_gI hf rfl (by decide) w9_X5_advance_X5 (by decide +kernel) dX5_advance_135 (fun x24 hf => ?_)
              refine pw_iconst (v := (1)) dX5_advance_138 (by decide) ?_
              refine pw_iadd dX5_advance_139 ?_
              refine q_pV (ty := .int) hf tyX5 tyX5_ok nmX5 rfl (by decide) w9_X5_advance_X5 (by decide +kernel) rfl (by decide +kernel) rfl rfl dX5_advance_140 (fun h25 hf => ?_)
              refine pw_goto (tgt := 150) dX5_advance_143 (by decide) ?_
              exact pw_vret rfl dX5_advance_150 ⟨rfl, Option.some.inj hf⟩
          · refine pw_aload_n dX5_advance_106 rfl ?_
            refine pw_iconst (v := (0)) dX5_advance_107 (by decide) ?_
            refine q_pV (ty := .int) hf tyX5 tyX5_ok nmX5 rfl (by decide) w9_X5_advance_X5 (by decide +kernel) rfl (by decide +kernel) rfl rfl dX5_advance_108 (fun h26 hf => ?_)
            refine pw_goto (tgt := 150) dX5_advance_111 (by decide) ?_
            exact pw_vret rfl dX5_advance_150 ⟨rfl, Option.some.inj hf⟩
        · refine pw_aload_n dX5_advance_80 rfl ?_
          refine pw_sipush (v := (300)) dX5_advance_81 (by decide) ?_
          refine q_pV (ty := .int) hf tyX5 tyX5_ok nmX5 rfl (by decide) w9_X5_advance_X5 (by decide +kernel) rfl (by decide +kernel) rfl rfl dX5_advance_84 (fun h27 hf => ?_)
          refine pw_aload_n dX5_advance_87 rfl ?_
          refine pw_iconst (v := (4)) dX5_advance_88 (by decide) ?_
          refine q_pV (ty := .int) hf tyX5 tyX5_ok nmX5 rfl (by decide) w9_X5_advance_X5 (by decide +kernel) rfl (by decide +kernel) rfl rfl dX5_advance_89 (fun h28 hf => ?_)
          refine pw_goto (tgt := 150) dX5_advance_92 (by decide) ?_
          exact pw_vret rfl dX5_advance_150 ⟨rfl, Option.some.inj hf⟩
    · refine pw_aload_n dX5_advance_11 rfl ?_
      refine q_gR hf rfl (by decide) w9_X5_advance_X5 (by decide +kernel) dX5_advance_12 (fun x29 hf => ?_)
      refine pw_aload_n dX5_advance_15 rfl ?_
      refine q_gI hf rfl (by decide) w9_X5_advance_X5 (by decide +kernel) dX5_advance_16 (fun x30 hf => ?_)
      refine q_bald hf dX5_advance_19 (fun x31 hf => ?_)
      refine pw_bipush (v := (32)) dX5_advance_20 (by decide) ?_
      refine q_icmp_eq (tgt := 39) hf dX5_advance_22 (by decide) (fun hf _ => ?_) (fun hf _ => ?_)
      · refine pw_aload_n dX5_advance_39 rfl ?_
        refine pw_dup dX5_advance_40 rfl ?_
        refine q_gI hf rfl (by decide) w9_X5_advance_X5 (by decide +kernel) dX5_advance_41 (fun x32 hf => ?_)
        refine pw_iconst (v := (1)) dX5_advance_44 (by decide) ?_
        refine pw_iadd dX5_advance_45 ?_
        refine q_pV (ty := .int) hf tyX5 tyX5_ok nmX5 rfl (by decide) w9_X5_advance_X5 (by decide +kernel) rfl (by decide +kernel) rfl rfl dX5_advance_46 (fun h33 hf => ?_)
        refine pw_goto (tgt := 0) dX5_advance_49 (by decide) ?_
        exact pw_lo (lle_s rfl lle_0) (ih _ _ hf)
      · refine pw_aload_n dX5_advance_25 rfl ?_
        refine q_gR hf rfl (by decide) w9_X5_advance_X5 (by decide +kernel) dX5_advance_26 (fun x34 hf => ?_)
        refine pw_aload_n dX5_advance_29 rfl ?_
        refine q_gI hf rfl (by decide) w9_X5_advance_X5 (by decide +kernel) dX5_advance_30 (fun x35 hf => ?_)
        refine q_bald hf dX5_advance_33 (fun x36 hf => ?_)
        refine pw_bipush (v := (10)) dX5_advance_34 (by decide) ?_
        refine q_icmp_ne (tgt := 52) hf dX5_advance_36 (by decide) (fun hf _ => ?_) (fun hf _ => ?_)
        · refine pw_aload_n dX5_advance_52 rfl ?_
          refine pw_aload_n dX5_advance_53 rfl ?_
          refine q_gI hf rfl (by decide) w9_X5_advance_X5 (by decide +kernel) dX5_advance_54 (fun x37 hf => ?_)
          refine q_pV (ty := .int) hf tyX5 tyX5_ok nmX5 rfl (by decide) w9_X5_advance_X5 (by decide +kernel) rfl (by decide +kernel) rfl rfl dX5_advance_57 (fun h38 hf => ?_)
          refine pw_aload_n dX5_advance_60 rfl ?_
          refine q_gI hf rfl (by decide) w9_X5_advance_X5 (by decide +kernel) dX5_advance_61 (fun x39 hf => ?_)
          refine pw_sipush (v := (300)) dX5_advance_64 (by decide) ?_
          refine q_icmp_le (tgt := 95) hf dX5_advance_67 (by decide) (fun hf _ => ?_) (fun hf _ => ?_)
          · refine pw_aload_n dX5_advance_95 rfl ?_
            refine q_gI hf rfl (by decide) w9_X5_advance_X5 (by decide +kernel) dX5_advance_96 (fun x40 hf => ?_)
            refine pw_aload_n dX5_advance_99 rfl ?_
            refine q_gI hf rfl (by decide) w9_X5_advance_X5 (by decide +kernel) dX5_advance_100 (fun x41 hf => ?_)
            refine q_icmp_lt (tgt := 114) hf dX5_advance_103 (by decide) (fun hf _ => ?_) (fun hf _ => ?_)
            · refine pw_aload_n dX5_advance_114 rfl ?_
              refine q_gR hf rfl (by decide) w9_X5_advance_X5 (by decide +kernel) dX5_advance_115 (fun x42 hf => ?_)
              refine pw_aload_n dX5_advance_118 rfl ?_
              refine q_gI hf rfl (by decide) w9_X5_advance_X5 (by decide +kernel) dX5_advance_119 (fun x43 hf => ?_)
              refine q_bald hf dX5_advance_122 (fun x44 hf => ?_)
              refine pw_bipush (v := (59)) dX5_advance_123 (by decide) ?_
              refine q_icmp_ne (tgt := 146) hf dX5_advance_125 (by decide) (fun hf _ => ?_) (fun hf _ => ?_)
              · refine pw_aload_n dX5_advance_146 rfl ?_
                refine q_callV_v (kc2 := 0) (ks2 := 0) (as := []) (rest := []) hf (fun x9 e9 => t_X5_advanceRun e9) gX5_advance_X5_advanceRun rfl hd9_X5_advanceRun rfl rfl ⟨(by decide), by decide⟩ ⟨rfl, rfl⟩ (Nat.le_of_ble_eq_true rfl) dX5_advance_147 rfl (fun h45 hf => ?_)
                exact pw_vret rfl dX5_advance_150 ⟨rfl, Option.some.inj hf⟩
              · refine pw_aload_n dX5_advance_128 rfl ?_
                refine pw_iconst (v := (3)) dX5_advance_129 (by decide) ?_
                refine q_pV (ty := .int) hf tyX5 tyX5_ok nmX5 rfl (by decide) w9_X5_advance_X5 (by decide +kernel) rfl (by decide +kernel) rfl rfl dX5_advance_130 (fun h46 hf => ?_)
                refine pw_aload_n dX5_advance_133 rfl ?_
                refine pw_dup dX5_advance_134 rfl ?_
                refine q_gI hf rfl (by decide) w9_X5_advance_X5 (by decide +kernel) dX5_advance_135 (fun x47 hf => ?_)
                refine pw_iconst (v := (1)) dX5_advance_138 (by decide) ?_
                refine pw_iadd dX5_advance_139 ?_
                refine q_pV (ty := .int) hf tyX5 tyX5_ok nmX5 rfl (by decide) w9_X5_advance_X5 (by decide +kernel) rfl (by decide +kernel) rfl rfl dX5_advance_140 (fun h48 hf => ?_)
                refine pw_goto (tgt := 150) dX5_advance_143 (by decide) ?_
                exact pw_vret rfl dX5_advance_150 ⟨rfl, Option.some.inj hf⟩
            · refine pw_aload_n dX5_advance_106 rfl ?_
              refine pw_iconst (v := (0)) dX5_advance_107 (by decide) ?_
              refine q_pV (ty := .int) hf tyX5 tyX5_ok nmX5 rfl (by decide) w9_X5_advance_X5 (by decide +kernel) rfl (by decide +kernel) rfl rfl dX5_advance_108 (fun h49 hf => ?_)
              refine pw_goto (tgt := 150) dX5_advance_111 (by decide) ?_
              exact pw_vret rfl dX5_advance_150 ⟨rfl, Option.some.inj hf⟩
          · refine pw_aload_n dX5_advance_70 rfl ?_
            refine q_gI hf rfl (by decide) w9_X5_advance_X5 (by decide +kernel) dX5_advance_71 (fun x50 hf => ?_)
            refine pw_sipush (v := (300)) dX5_advance_74 (by decide) ?_
            refine q_icmp_lt (tgt := 95) hf dX5_advance_77 (by decide) (fun hf _ => ?_) (fun hf _ => ?_)
            · refine pw_aload_n dX5_advance_95 rfl ?_
              refine q_gI hf rfl (by decide) w9_X5_advance_X5 (by decide +kernel) dX5_advance_96 (fun x51 hf => ?_)
              refine pw_aload_n dX5_advance_99 rfl ?_
              refine q_gI hf rfl (by decide) w9_X5_advance_X5 (by decide +kernel) dX5_advance_100 (fun x52 hf => ?_)
              refine q_icmp_lt (tgt := 114) hf dX5_advance_103 (by decide) (fun hf _ => ?_) (fun hf _ => ?_)
              · refine pw_aload_n dX5_advance_114 rfl ?_
                refine q_gR hf rfl (by decide) w9_X5_advance_X5 (by decide +kernel) dX5_advance_115 (fun x53 hf => ?_)
                refine pw_aload_n dX5_advance_118 rfl ?_
                refine q_gI hf rfl (by decide) w9_X5_advance_X5 (by decide +kernel) dX5_advance_119 (fun x54 hf => ?_)
                refine q_bald hf dX5_advance_122 (fun x55 hf => ?_)
                refine pw_bipush (v := (59)) dX5_advance_123 (by decide) ?_
                refine q_icmp_ne (tgt := 146) hf dX5_advance_125 (by decide) (fun hf _ => ?_) (fun hf _ => ?_)
                · refine pw_aload_n dX5_advance_146 rfl ?_
                  refine q_callV_v (kc2 := 0) (ks2 := 0) (as := []) (rest := []) hf (fun x9 e9 => t_X5_advanceRun e9) gX5_advance_X5_advanceRun rfl hd9_X5_advanceRun rfl rfl ⟨(by decide), by decide⟩ ⟨rfl, rfl⟩ (Nat.le_of_ble_eq_true rfl) dX5_advance_147 rfl (fun h56 hf => ?_)
                  exact pw_vret rfl dX5_advance_150 ⟨rfl, Option.some.inj hf⟩
                · refine pw_aload_n dX5_advance_128 rfl ?_
                  refine pw_iconst (v := (3)) dX5_advance_129 (by decide) ?_
                  refine q_pV (ty := .int) hf tyX5 tyX5_ok nmX5 rfl (by decide) w9_X5_advance_X5 (by decide +kernel) rfl (by decide +kernel) rfl rfl dX5_advance_130 (fun h57 hf => ?_)
                  refine pw_aload_n dX5_advance_133 rfl ?_
                  refine pw_dup dX5_advance_134 rfl ?_
                  refine q_gI hf rfl (by decide) w9_X5_advance_X5 (by decide +kernel) dX5_advance_135 (fun x58 hf => ?_)
                  refine pw_iconst (v := (1)) dX5_advance_138 (by decide) ?_
                  refine pw_iadd dX5_advance_139 ?_
                  refine q_pV (ty := .int) hf tyX5 tyX5_ok nmX5 rfl (by decide) w9_X5_advance_X5 (by decide +kernel) rfl (by decide +kernel) rfl rfl dX5_advance_140 (fun h59 hf => ?_)
                  refine pw_goto (tgt := 150) dX5_advance_143 (by decide) ?_
                  exact pw_vret rfl dX5_advance_150 ⟨rfl, Option.some.inj hf⟩
              · refine pw_aload_n dX5_advance_106 rfl ?_
                refine pw_iconst (v := (0)) dX5_advance_107 (by decide) ?_
                refine q_pV (ty := .int) hf tyX5 tyX5_ok nmX5 rfl (by decide) w9_X5_advance_X5 (by decide +kernel) rfl (by decide +kernel) rfl rfl dX5_advance_108 (fun h60 hf => ?_)
                refine pw_goto (tgt := 150) dX5_advance_111 (by decide) ?_
                exact pw_vret rfl dX5_advance_150 ⟨rfl, Option.some.inj hf⟩
            · refine pw_aload_n dX5_advance_80 rfl ?_
              refine pw_sipush (v := (300)) dX5_advance_81 (by decide) ?_
              refine q_pV (ty := .int) hf tyX5 tyX5_ok nmX5 rfl (by decide) w9_X5_advance_X5 (by decide +kernel) rfl (by decide +kernel) rfl rfl dX5_advance_84 (fun h61 hf => ?_)
              refine pw_aload_n dX5_advance_87 rfl ?_
              refine pw_iconst (v := (4)) dX5_advance_88 (by decide) ?_
              refine q_pV (ty := .int) hf tyX5 tyX5_ok nmX5 rfl (by decide) w9_X5_advance_X5 (by decide +kernel) rfl (by decide +kernel) rfl rfl dX5_advance_89 (fun h62 hf => ?_)
              refine pw_goto (tgt := 150) dX5_advance_92 (by decide) ?_
              exact pw_vret rfl dX5_advance_150 ⟨rfl, Option.some.inj hf⟩
        · refine pw_aload_n dX5_advance_39 rfl ?_
          refine pw_dup dX5_advance_40 rfl ?_
          refine q_gI hf rfl (by decide) w9_X5_advance_X5 (by decide +kernel) dX5_advance_41 (fun x63 hf => ?_)
          refine pw_iconst (v := (1)) dX5_advance_44 (by decide) ?_
          refine pw_iadd dX5_advance_45 ?_
          refine q_pV (ty := .int) hf tyX5 tyX5_ok nmX5 rfl (by decide) w9_X5_advance_X5 (by decide +kernel) rfl (by decide +kernel) rfl rfl dX5_advance_46 (fun h64 hf => ?_)
          refine pw_goto (tgt := 0) dX5_advance_49 (by decide) ?_
          exact pw_lo (lle_s rfl lle_0) (ih _ _ hf)
def f_X5_advance (h : Hp) (a0 : Nat) : Option Hp := f_X5_advance_0 4096 a0 h
set_option maxHeartbeats 4000000 in
set_option maxRecDepth 100000 in
theorem t_X5_advance {g : GT} {l : Launch} {h : Hp} {a0 : Nat} {r : Hp} (hf : f_X5_advance h a0 = some r) : PM g l 2 0 0 yX5_advance wsX5_advance [.ref a0] h (fun r9 h9 => r9 = none ∧ h9 = r) := by
  refine pm_of (M := m_X5_advance) (by decide) rfl rfl rfl (Nat.le_of_ble_eq_true rfl) (lo := [some (.ref a0)]) rfl ?_
  rw [f_X5_advance] at hf
  exact pw_lo (lle_s rfl lle_0) (w_X5_advance_0 4096 _ _ hf)
/-! X5_isWord -/
abbrev m_X5_isWord : MD := (cX5_isWord, RX5, "isWord", wsX5_isWord, 3, (some .boolean))
theorem w9_X5_isWord_X5 : ∀ w ∈ u_ws RX5 TX5 9, w ∈ wsX5_isWord := by decide +kernel
theorem hd9_X5_isWord : yX5_isWord.cls = RX5 ∧ yX5_isWord.cls ≠ "java/lang/invoke/MethodHandle" ∧ yX5_isWord.cls ≠ "java/lang/invoke/VarHandle" ∧ (parseMethodDescriptor yX5_isWord.desc).map (fun d => d.parameters.length) = some 1 := by decide +kernel
def f_X5_isWord_28 : Nat → Nat → Fin 4 → Int32 → Hp → Option Int32
  | 0, _, _, _, _ => none
  | n + 1, v0, v1, v2, h => (f_J0_length_8abf5 h v1).bind fun x1 => if x1 ≤ v2 then (some ((1 : Int32))) else ((gR h v0 5 1).bind fun x2 => (gI h v0 5 4).bind fun x3 => (aI h 1 x2 (x3 + v2)).bind fun x4 => (f_J0_charAt_5068e h v1 v2).bind fun x5 => if x4 = x5 then (f_X5_isWord_28 n v0 v1 (v2 + (1)) h) else (some ((0 : Int32))))
set_option maxHeartbeats 4000000 in
set_option maxRecDepth 100000 in
theorem w_X5_isWord_28 {g : GT} {l : Launch} {r : Int32} : ∀ (n : Nat) (v0 : Nat) (v1 : Fin 4) (v2 : Int32) (h : Hp), f_X5_isWord_28 n v0 v1 v2 h = some r → PW g l m_X5_isWord 5 0 0 28 [some (.ref v0), some (.float (c4 v1)), some (.int v2)] [] h (fun r9 h9 => r9 = some (.int r) ∧ h9 = h) := by
  intro n
  induction n with
  | zero => intro v0 v1 v2 h hf; cases hf
  | succ n ih =>
    intro v0 v1 v2 h hf
    rw [f_X5_isWord_28] at hf
    refine pw_iload_n dX5_isWord_28 rfl ?_
    refine pw_t4_n dX5_isWord_29 rfl ?_
    refine q_callVT_i (kc2 := 0) (ks2 := 0) (as := []) (rest := [.int v2]) hf (fun x9 e9 => t_J0_length_8abf5 e9) gX5_isWord_J0_length_8abf5 rfl hd9_J0_length_8abf5 rfl ⟨(by decide), by decide⟩ ⟨rfl, rfl⟩ (Nat.le_of_ble_eq_true rfl) dX5_isWord_30 rfl (fun x1 hf => ?_)
    refine q_icmp_ge (tgt := 63) hf dX5_isWord_33 (by decide) (fun hf _ => ?_) (fun hf _ => ?_)
    · refine pw_iconst (v := (1)) dX5_isWord_63 (by decide) ?_
      exact pw_iret (x := (1 : Int32)) rfl rfl dX5_isWord_64 ⟨congrArg (fun z => some (Value.int z)) (Option.some.inj hf), rfl⟩
    · refine pw_aload_n dX5_isWord_36 rfl ?_
      refine q_gR hf rfl (by decide) w9_X5_isWord_X5 (by decide +kernel) dX5_isWord_37 (fun x2 hf => ?_)
      refine pw_aload_n dX5_isWord_40 rfl ?_
      refine q_gI hf rfl (by decide) w9_X5_isWord_X5 (by decide +kernel) dX5_isWord_41 (fun x3 hf => ?_)
      refine pw_iload_n dX5_isWord_44 rfl ?_
      refine pw_iadd dX5_isWord_45 ?_
      refine q_bald hf dX5_isWord_46 (fun x4 hf => ?_)
      refine pw_t4_n dX5_isWord_47 rfl ?_
      refine pw_iload_n dX5_isWord_48 rfl ?_
      refine q_callVT_i (kc2 := 0) (ks2 := 0) (as := [.int v2]) (rest := [.int x4]) hf (fun x9 e9 => t_J0_charAt_5068e e9) gX5_isWord_J0_charAt_5068e rfl hd9_J0_charAt_5068e rfl ⟨(by decide), by decide⟩ ⟨rfl, rfl⟩ (Nat.le_of_ble_eq_true rfl) dX5_isWord_49 rfl (fun x5 hf => ?_)
      refine q_icmp_eq (tgt := 57) hf dX5_isWord_52 (by decide) (fun hf _ => ?_) (fun hf _ => ?_)
      · refine pw_iinc (v := v2 + (1)) dX5_isWord_57 rfl rfl (by decide) rfl ?_
        dsimp only [lset, lset2, clr]
        refine pw_goto (tgt := 28) dX5_isWord_60 (by decide) ?_
        exact pw_lo (lle_s rfl (lle_s rfl (lle_s rfl lle_0))) (ih _ _ _ _ hf)
      · refine pw_iconst (v := (0)) dX5_isWord_55 (by decide) ?_
        exact pw_iret (x := (0 : Int32)) rfl rfl dX5_isWord_56 ⟨congrArg (fun z => some (Value.int z)) (Option.some.inj hf), rfl⟩
def f_X5_isWord (h : Hp) (a0 : Nat) (a1 : Fin 4) : Option Int32 := (gI h a0 5 3).bind fun x1 => if x1 = (1 : Int32) then ((gI h a0 5 5).bind fun x2 => (gI h a0 5 4).bind fun x3 => (f_J0_length_8abf5 h a1).bind fun x4 => if (x2 - x3) = x4 then (f_X5_isWord_28 4096 a0 a1 (0 : Int32) h) else (some ((0 : Int32)))) else (some ((0 : Int32)))
set_option maxHeartbeats 4000000 in
set_option maxRecDepth 100000 in
theorem t_X5_isWord {g : GT} {l : Launch} {h : Hp} {a0 : Nat} {a1 : Fin 4} {r : Int32} (hf : f_X5_isWord h a0 a1 = some r) : PM g l 5 0 0 yX5_isWord wsX5_isWord [.ref a0, .float (c4 a1)] h (fun r9 h9 => r9 = some (.int r) ∧ h9 = h) := by
  refine pm_of (M := m_X5_isWord) (by decide) rfl rfl rfl (Nat.le_of_ble_eq_true rfl) (lo := [some (.ref a0), some (.float (c4 a1)), none]) rfl ?_
  rw [f_X5_isWord] at hf
  refine pw_aload_n dX5_isWord_0 rfl ?_
  refine q_gI hf rfl (by decide) w9_X5_isWord_X5 (by decide +kernel) dX5_isWord_1 (fun x1 hf => ?_)
  refine pw_iconst (v := (1)) dX5_isWord_4 (by decide) ?_
  refine q_icmp_ne (tgt := 24) hf dX5_isWord_5 (by decide) (fun hf _ => ?_) (fun hf _ => ?_)
  · refine pw_iconst (v := (0)) dX5_isWord_24 (by decide) ?_
    exact pw_iret (x := (0 : Int32)) rfl rfl dX5_isWord_25 ⟨congrArg (fun z => some (Value.int z)) (Option.some.inj hf), rfl⟩
  · refine pw_aload_n dX5_isWord_8 rfl ?_
    refine q_gI hf rfl (by decide) w9_X5_isWord_X5 (by decide +kernel) dX5_isWord_9 (fun x2 hf => ?_)
    refine pw_aload_n dX5_isWord_12 rfl ?_
    refine q_gI hf rfl (by decide) w9_X5_isWord_X5 (by decide +kernel) dX5_isWord_13 (fun x3 hf => ?_)
    refine pw_isub dX5_isWord_16 ?_
    refine pw_t4_n dX5_isWord_17 rfl ?_
    refine q_callVT_i (kc2 := 0) (ks2 := 0) (as := []) (rest := [.int (x2 - x3)]) hf (fun x9 e9 => t_J0_length_8abf5 e9) gX5_isWord_J0_length_8abf5 rfl hd9_J0_length_8abf5 rfl ⟨(by decide), by decide⟩ ⟨rfl, rfl⟩ (Nat.le_of_ble_eq_true rfl) dX5_isWord_18 rfl (fun x4 hf => ?_)
    refine q_icmp_eq (tgt := 26) hf dX5_isWord_21 (by decide) (fun hf _ => ?_) (fun hf _ => ?_)
    · refine pw_iconst (v := (0)) dX5_isWord_26 (by decide) ?_
      refine pw_istore_n dX5_isWord_27 (by decide) rfl ?_
      dsimp only [lset, lset2, clr]
      exact pw_lo (lle_s rfl (lle_s rfl (lle_s rfl lle_0))) (w_X5_isWord_28 4096 _ _ _ _ hf)
    · refine pw_iconst (v := (0)) dX5_isWord_24 (by decide) ?_
      exact pw_iret (x := (0 : Int32)) rfl rfl dX5_isWord_25 ⟨congrArg (fun z => some (Value.int z)) (Option.some.inj hf), rfl⟩
/-! X5_fails -/
abbrev m_X5_fails : MD := (cX5_fails, RX5, "fails", wsX5_fails, 2, (some .boolean))
theorem w9_X5_fails_X5 : ∀ w ∈ u_ws RX5 TX5 9, w ∈ wsX5_fails := by decide +kernel
theorem hd9_X5_fails : yX5_fails.cls = RX5 ∧ yX5_fails.cls ≠ "java/lang/invoke/MethodHandle" ∧ yX5_fails.cls ≠ "java/lang/invoke/VarHandle" ∧ (parseMethodDescriptor yX5_fails.desc).map (fun d => d.parameters.length) = some 1 := by decide +kernel
def f_X5_fails (h : Hp) (a0 : Nat) (a1 : Int32) : Option (Int32 × Hp) := (pV h a0 5 8 (.int a1)).bind fun h1 => some (((0 : Int32), h1))
set_option maxHeartbeats 4000000 in
set_option maxRecDepth 100000 in
theorem t_X5_fails {g : GT} {l : Launch} {h : Hp} {a0 : Nat} {a1 : Int32} {r : (Int32 × Hp)} (hf : f_X5_fails h a0 a1 = some r) : PM g l 1 0 0 yX5_fails wsX5_fails [.ref a0, .int a1] h (fun r9 h9 => r9 = some (.int r.1) ∧ h9 = r.2) := by
  refine pm_of (M := m_X5_fails) (by decide) rfl rfl rfl (Nat.le_of_ble_eq_true rfl) (lo := [some (.ref a0), some (.int a1)]) rfl ?_
  rw [f_X5_fails] at hf
  refine pw_aload_n dX5_fails_0 rfl ?_
  refine pw_iload_n dX5_fails_1 rfl ?_
  refine q_pV (ty := .int) hf tyX5 tyX5_ok nmX5 rfl (by decide) w9_X5_fails_X5 (by decide +kernel) rfl (by decide +kernel) rfl rfl dX5_fails_2 (fun h1 hf => ?_)
  refine pw_iconst (v := (0)) dX5_fails_5 (by decide) ?_
  exact pw_iret (x := (0 : Int32)) rfl rfl dX5_fails_6 (ret_iw hf)
/-! X5_readNumber -/
abbrev m_X5_readNumber : MD := (cX5_readNumber, RX5, "readNumber", wsX5_readNumber, 2, (some .boolean))
theorem w9_X5_readNumber_X5 : ∀ w ∈ u_ws RX5 TX5 9, w ∈ wsX5_readNumber := by decide +kernel
theorem hd9_X5_readNumber : yX5_readNumber.cls = RX5 ∧ yX5_readNumber.cls ≠ "java/lang/invoke/MethodHandle" ∧ yX5_readNumber.cls ≠ "java/lang/invoke/VarHandle" ∧ (parseMethodDescriptor yX5_readNumber.desc).map (fun d => d.parameters.length) = some 1 := by decide +kernel
def f_X5_readNumber (h : Hp) (a0 : Nat) (a1 : Int32) : Option (Int32 × Hp) := if oK h a0 5 = true then (f_X5_advance h a0).bind fun h1 => (gI h1 a0 5 3).bind fun x2 => if x2 = (2 : Int32) then ((gI h1 a0 5 6).bind fun x3 => if x3 < (1 : Int32) then (if oK h1 a0 5 = true then (f_X5_fails h1 a0 (2 : Int32)).bind fun x4 => if x4.1 = 0 then (some (((0 : Int32), x4.2))) else (some (((1 : Int32), x4.2))) else none) else ((gI h1 a0 5 6).bind fun x5 => if x5 ≤ a1 then (some (((1 : Int32), h1))) else (if oK h1 a0 5 = true then (f_X5_fails h1 a0 (2 : Int32)).bind fun x6 => if x6.1 = 0 then (some (((0 : Int32), x6.2))) else (some (((1 : Int32), x6.2))) else none))) else (if oK h1 a0 5 = true then (f_X5_fails h1 a0 (1 : Int32)).bind fun x7 => if x7.1 = 0 ∨ x7.1 = 1 then some ((x7.1, x7.2)) else none else none) else none
set_option maxHeartbeats 4000000 in
set_option maxRecDepth 100000 in
theorem t_X5_readNumber {g : GT} {l : Launch} {h : Hp} {a0 : Nat} {a1 : Int32} {r : (Int32 × Hp)} (hf : f_X5_readNumber h a0 a1 = some r) : PM g l 3 0 0 yX5_readNumber wsX5_readNumber [.ref a0, .int a1] h (fun r9 h9 => r9 = some (.int r.1) ∧ h9 = r.2) := by
  refine pm_of (M := m_X5_readNumber) (by decide) rfl rfl rfl (Nat.le_of_ble_eq_true rfl) (lo := [some (.ref a0), some (.int a1)]) rfl ?_
  rw [f_X5_readNumber] at hf
  refine pw_aload_n dX5_readNumber_0 rfl ?_
  refine q_callV_v (kc2 := 0) (ks2 := 0) (as := []) (rest := []) hf (fun x9 e9 => t_X5_advance e9) gX5_readNumber_X5_advance rfl hd9_X5_advance rfl rfl ⟨(by decide), by decide⟩ ⟨rfl, rfl⟩ (Nat.le_of_ble_eq_true rfl) dX5_readNumber_1 rfl (fun h1 hf => ?_)
  refine pw_aload_n dX5_readNumber_4 rfl ?_
  refine q_gI hf rfl (by decide) w9_X5_readNumber_X5 (by decide +kernel) dX5_readNumber_5 (fun x2 hf => ?_)
  refine pw_iconst (v := (2)) dX5_readNumber_8 (by decide) ?_
  refine q_icmp_eq (tgt := 18) hf dX5_readNumber_9 (by decide) (fun hf _ => ?_) (fun hf _ => ?_)
  · refine pw_aload_n dX5_readNumber_18 rfl ?_
    refine q_gI hf rfl (by decide) w9_X5_readNumber_X5 (by decide +kernel) dX5_readNumber_19 (fun x3 hf => ?_)
    refine pw_iconst (v := (1)) dX5_readNumber_22 (by decide) ?_
    refine q_icmp_lt (tgt := 34) hf dX5_readNumber_23 (by decide) (fun hf _ => ?_) (fun hf _ => ?_)
    · refine pw_aload_n dX5_readNumber_34 rfl ?_
      refine pw_iconst (v := (2)) dX5_readNumber_35 (by decide) ?_
      refine q_callV_iw (kc2 := 0) (ks2 := 0) (as := [.int (2 : Int32)]) (rest := []) hf (fun x9 e9 => t_X5_fails e9) gX5_readNumber_X5_fails rfl hd9_X5_fails rfl rfl ⟨(by decide), by decide⟩ ⟨rfl, rfl⟩ (Nat.le_of_ble_eq_true rfl) dX5_readNumber_36 rfl (fun x4 hf => ?_)
      refine q_if_eq (tgt := 46) hf dX5_readNumber_39 (by decide) (fun hf _ => ?_) (fun hf _ => ?_)
      · refine pw_iconst (v := (0)) dX5_readNumber_46 (by decide) ?_
        exact pw_iret (x := (0 : Int32)) rfl rfl dX5_readNumber_47 (ret_iw hf)
      · refine pw_iconst (v := (1)) dX5_readNumber_42 (by decide) ?_
        refine pw_goto (tgt := 47) dX5_readNumber_43 (by decide) ?_
        exact pw_iret (x := (1 : Int32)) rfl rfl dX5_readNumber_47 (ret_iw hf)
    · refine pw_aload_n dX5_readNumber_26 rfl ?_
      refine q_gI hf rfl (by decide) w9_X5_readNumber_X5 (by decide +kernel) dX5_readNumber_27 (fun x5 hf => ?_)
      refine pw_iload_n dX5_readNumber_30 rfl ?_
      refine q_icmp_le (tgt := 42) hf dX5_readNumber_31 (by decide) (fun hf _ => ?_) (fun hf _ => ?_)
      · refine pw_iconst (v := (1)) dX5_readNumber_42 (by decide) ?_
        refine pw_goto (tgt := 47) dX5_readNumber_43 (by decide) ?_
        exact pw_iret (x := (1 : Int32)) rfl rfl dX5_readNumber_47 (ret_iw hf)
      · refine pw_aload_n dX5_readNumber_34 rfl ?_
        refine pw_iconst (v := (2)) dX5_readNumber_35 (by decide) ?_
        refine q_callV_iw (kc2 := 0) (ks2 := 0) (as := [.int (2 : Int32)]) (rest := []) hf (fun x9 e9 => t_X5_fails e9) gX5_readNumber_X5_fails rfl hd9_X5_fails rfl rfl ⟨(by decide), by decide⟩ ⟨rfl, rfl⟩ (Nat.le_of_ble_eq_true rfl) dX5_readNumber_36 rfl (fun x6 hf => ?_)
        refine q_if_eq (tgt := 46) hf dX5_readNumber_39 (by decide) (fun hf _ => ?_) (fun hf _ => ?_)
        · refine pw_iconst (v := (0)) dX5_readNumber_46 (by decide) ?_
          exact pw_iret (x := (0 : Int32)) rfl rfl dX5_readNumber_47 (ret_iw hf)
        · refine pw_iconst (v := (1)) dX5_readNumber_42 (by decide) ?_
          refine pw_goto (tgt := 47) dX5_readNumber_43 (by decide) ?_
          exact pw_iret (x := (1 : Int32)) rfl rfl dX5_readNumber_47 (ret_iw hf)
  · refine pw_aload_n dX5_readNumber_12 rfl ?_
    refine pw_iconst (v := (1)) dX5_readNumber_13 (by decide) ?_
    refine q_callV_iw (kc2 := 0) (ks2 := 0) (as := [.int (1 : Int32)]) (rest := []) hf (fun x9 e9 => t_X5_fails e9) gX5_readNumber_X5_fails rfl hd9_X5_fails rfl rfl ⟨(by decide), by decide⟩ ⟨rfl, rfl⟩ (Nat.le_of_ble_eq_true rfl) dX5_readNumber_14 rfl (fun x7 hf => ?_)
    obtain ⟨hb9, hf⟩ := iteN hf
    exact pw_iret (x := x7.1) rfl (narZ hb9) dX5_readNumber_17 (ret_iw hf)
/-! X5_readCells -/
abbrev m_X5_readCells : MD := (cX5_readCells, RX5, "readCells", wsX5_readCells, 1, (some .boolean))
theorem w9_X5_readCells_X5 : ∀ w ∈ u_ws RX5 TX5 9, w ∈ wsX5_readCells := by decide +kernel
theorem hd9_X5_readCells : yX5_readCells.cls = RX5 ∧ yX5_readCells.cls ≠ "java/lang/invoke/MethodHandle" ∧ yX5_readCells.cls ≠ "java/lang/invoke/VarHandle" ∧ (parseMethodDescriptor yX5_readCells.desc).map (fun d => d.parameters.length) = some 0 := by decide +kernel
def f_X5_readCells (h : Hp) (a0 : Nat) : Option (Int32 × Hp) := if oK h a0 5 = true then (f_X5_readNumber h a0 (18 : Int32)).bind fun x1 => if x1.1 = 0 then (some (((0 : Int32), x1.2))) else ((gR x1.2 a0 5 0).bind fun x2 => (gI x1.2 a0 5 6).bind fun x3 => if oK x1.2 x2 2 = true then (f_X2_begin x1.2 x2 x3 (0 : Int32) (0 : Int32)).bind fun h4 => if oK h4 a0 5 = true then (f_X5_advance h4 a0).bind fun h5 => some (((1 : Int32), h5)) else none else none) else none
set_option maxHeartbeats 4000000 in
set_option maxRecDepth 100000 in
theorem t_X5_readCells {g : GT} {l : Launch} {h : Hp} {a0 : Nat} {r : (Int32 × Hp)} (hf : f_X5_readCells h a0 = some r) : PM g l 4 0 0 yX5_readCells wsX5_readCells [.ref a0] h (fun r9 h9 => r9 = some (.int r.1) ∧ h9 = r.2) := by
  refine pm_of (M := m_X5_readCells) (by decide) rfl rfl rfl (Nat.le_of_ble_eq_true rfl) (lo := [some (.ref a0)]) rfl ?_
  rw [f_X5_readCells] at hf
  refine pw_aload_n dX5_readCells_0 rfl ?_
  refine pw_bipush (v := (18)) dX5_readCells_1 (by decide) ?_
  refine q_callV_iw (kc2 := 0) (ks2 := 0) (as := [.int (18 : Int32)]) (rest := []) hf (fun x9 e9 => t_X5_readNumber e9) gX5_readCells_X5_readNumber rfl hd9_X5_readNumber rfl rfl ⟨(by decide), by decide⟩ ⟨rfl, rfl⟩ (Nat.le_of_ble_eq_true rfl) dX5_readCells_3 rfl (fun x1 hf => ?_)
  refine q_if_ne (tgt := 11) hf dX5_readCells_6 (by decide) (fun hf _ => ?_) (fun hf _ => ?_)
  · refine pw_aload_n dX5_readCells_11 rfl ?_
    refine q_gR hf rfl (by decide) w9_X5_readCells_X5 (by decide +kernel) dX5_readCells_12 (fun x2 hf => ?_)
    refine pw_aload_n dX5_readCells_15 rfl ?_
    refine q_gI hf rfl (by decide) w9_X5_readCells_X5 (by decide +kernel) dX5_readCells_16 (fun x3 hf => ?_)
    refine pw_iconst (v := (0)) dX5_readCells_19 (by decide) ?_
    refine pw_iconst (v := (0)) dX5_readCells_20 (by decide) ?_
    refine q_callV_v (kc2 := 0) (ks2 := 0) (as := [.int x3, .int (0 : Int32), .int (0 : Int32)]) (rest := []) hf (fun x9 e9 => t_X2_begin e9) gX5_readCells_X2_begin rfl hd9_X2_begin rfl rfl ⟨(by decide), by decide⟩ ⟨rfl, rfl⟩ (Nat.le_of_ble_eq_true rfl) dX5_readCells_21 rfl (fun h4 hf => ?_)
    refine pw_aload_n dX5_readCells_24 rfl ?_
    refine q_callV_v (kc2 := 0) (ks2 := 0) (as := []) (rest := []) hf (fun x9 e9 => t_X5_advance e9) gX5_readCells_X5_advance rfl hd9_X5_advance rfl rfl ⟨(by decide), by decide⟩ ⟨rfl, rfl⟩ (Nat.le_of_ble_eq_true rfl) dX5_readCells_25 rfl (fun h5 hf => ?_)
    refine pw_iconst (v := (1)) dX5_readCells_28 (by decide) ?_
    exact pw_iret (x := (1 : Int32)) rfl rfl dX5_readCells_29 (ret_iw hf)
  · refine pw_iconst (v := (0)) dX5_readCells_9 (by decide) ?_
    exact pw_iret (x := (0 : Int32)) rfl rfl dX5_readCells_10 (ret_iw hf)
/-! X5_readHole -/
abbrev m_X5_readHole : MD := (cX5_readHole, RX5, "readHole", wsX5_readHole, 1, (some .boolean))
theorem w9_X5_readHole_X2 : ∀ w ∈ u_ws RX2 TX2 4, w ∈ wsX5_readHole := by decide +kernel
theorem w9_X5_readHole_X5 : ∀ w ∈ u_ws RX5 TX5 9, w ∈ wsX5_readHole := by decide +kernel
theorem hd9_X5_readHole : yX5_readHole.cls = RX5 ∧ yX5_readHole.cls ≠ "java/lang/invoke/MethodHandle" ∧ yX5_readHole.cls ≠ "java/lang/invoke/VarHandle" ∧ (parseMethodDescriptor yX5_readHole.desc).map (fun d => d.parameters.length) = some 0 := by decide +kernel
def f_X5_readHole (h : Hp) (a0 : Nat) : Option (Int32 × Hp) := (gR h a0 5 0).bind fun x1 => (gI h x1 2 0).bind fun x2 => if oK h a0 5 = true then (f_X5_readNumber h a0 x2).bind fun x3 => if x3.1 = 0 then (some (((0 : Int32), x3.2))) else ((gR x3.2 a0 5 0).bind fun x4 => (gI x3.2 a0 5 6).bind fun x5 => if oK x3.2 x4 2 = true then (f_X2_setHole x3.2 x4 x5 (1 : Int32)).bind fun x6 => if x6.1 = (-1 : Int32) then (if oK x6.2 a0 5 = true then (f_X5_fails x6.2 a0 (3 : Int32)).bind fun x8 => if x8.1 = 0 ∨ x8.1 = 1 then some ((x8.1, x8.2)) else none else none) else (if oK x6.2 a0 5 = true then (f_X5_advance x6.2 a0).bind fun h7 => some (((1 : Int32), h7)) else none) else none) else none
set_option maxHeartbeats 4000000 in
set_option maxRecDepth 100000 in
theorem t_X5_readHole {g : GT} {l : Launch} {h : Hp} {a0 : Nat} {r : (Int32 × Hp)} (hf : f_X5_readHole h a0 = some r) : PM g l 4 0 0 yX5_readHole wsX5_readHole [.ref a0] h (fun r9 h9 => r9 = some (.int r.1) ∧ h9 = r.2) := by
  refine pm_of (M := m_X5_readHole) (by decide) rfl rfl rfl (Nat.le_of_ble_eq_true rfl) (lo := [some (.ref a0)]) rfl ?_
  rw [f_X5_readHole] at hf
  refine pw_aload_n dX5_readHole_0 rfl ?_
  refine pw_aload_n dX5_readHole_1 rfl ?_
  refine q_gR hf rfl (by decide) w9_X5_readHole_X5 (by decide +kernel) dX5_readHole_2 (fun x1 hf => ?_)
  refine q_gIN (host := "TwinRows") hf rfl (by decide) w9_X5_readHole_X2 (by decide +kernel) dX5_readHole_5 (fun x2 hf => ?_)
  refine q_callV_iw (kc2 := 0) (ks2 := 0) (as := [.int x2]) (rest := []) hf (fun x9 e9 => t_X5_readNumber e9) gX5_readHole_X5_readNumber rfl hd9_X5_readNumber rfl rfl ⟨(by decide), by decide⟩ ⟨rfl, rfl⟩ (Nat.le_of_ble_eq_true rfl) dX5_readHole_8 rfl (fun x3 hf => ?_)
  refine q_if_ne (tgt := 16) hf dX5_readHole_11 (by decide) (fun hf _ => ?_) (fun hf _ => ?_)
  · refine pw_aload_n dX5_readHole_16 rfl ?_
    refine q_gR hf rfl (by decide) w9_X5_readHole_X5 (by decide +kernel) dX5_readHole_17 (fun x4 hf => ?_)
    refine pw_aload_n dX5_readHole_20 rfl ?_
    refine q_gI hf rfl (by decide) w9_X5_readHole_X5 (by decide +kernel) dX5_readHole_21 (fun x5 hf => ?_)
    refine pw_iconst (v := (1)) dX5_readHole_24 (by decide) ?_
    refine q_callV_iw (kc2 := 0) (ks2 := 0) (as := [.int x5, .int (1 : Int32)]) (rest := []) hf (fun x9 e9 => t_X2_setHole e9) gX5_readHole_X2_setHole rfl hd9_X2_setHole rfl rfl ⟨(by decide), by decide⟩ ⟨rfl, rfl⟩ (Nat.le_of_ble_eq_true rfl) dX5_readHole_25 rfl (fun x6 hf => ?_)
    refine pw_iconst (v := (-1)) dX5_readHole_28 (by decide) ?_
    refine q_icmp_ne (tgt := 38) hf dX5_readHole_29 (by decide) (fun hf _ => ?_) (fun hf _ => ?_)
    · refine pw_aload_n dX5_readHole_38 rfl ?_
      refine q_callV_v (kc2 := 0) (ks2 := 0) (as := []) (rest := []) hf (fun x9 e9 => t_X5_advance e9) gX5_readHole_X5_advance rfl hd9_X5_advance rfl rfl ⟨(by decide), by decide⟩ ⟨rfl, rfl⟩ (Nat.le_of_ble_eq_true rfl) dX5_readHole_39 rfl (fun h7 hf => ?_)
      refine pw_iconst (v := (1)) dX5_readHole_42 (by decide) ?_
      exact pw_iret (x := (1 : Int32)) rfl rfl dX5_readHole_43 (ret_iw hf)
    · refine pw_aload_n dX5_readHole_32 rfl ?_
      refine pw_iconst (v := (3)) dX5_readHole_33 (by decide) ?_
      refine q_callV_iw (kc2 := 0) (ks2 := 0) (as := [.int (3 : Int32)]) (rest := []) hf (fun x9 e9 => t_X5_fails e9) gX5_readHole_X5_fails rfl hd9_X5_fails rfl rfl ⟨(by decide), by decide⟩ ⟨rfl, rfl⟩ (Nat.le_of_ble_eq_true rfl) dX5_readHole_34 rfl (fun x8 hf => ?_)
      obtain ⟨hb9, hf⟩ := iteN hf
      exact pw_iret (x := x8.1) rfl (narZ hb9) dX5_readHole_37 (ret_iw hf)
  · refine pw_iconst (v := (0)) dX5_readHole_14 (by decide) ?_
    exact pw_iret (x := (0 : Int32)) rfl rfl dX5_readHole_15 (ret_iw hf)
/-! X5_readPair -/
abbrev m_X5_readPair : MD := (cX5_readPair, RX5, "readPair", wsX5_readPair, 1, (some .boolean))
theorem w9_X5_readPair_X2 : ∀ w ∈ u_ws RX2 TX2 4, w ∈ wsX5_readPair := by decide +kernel
theorem w9_X5_readPair_X5 : ∀ w ∈ u_ws RX5 TX5 9, w ∈ wsX5_readPair := by decide +kernel
theorem hd9_X5_readPair : yX5_readPair.cls = RX5 ∧ yX5_readPair.cls ≠ "java/lang/invoke/MethodHandle" ∧ yX5_readPair.cls ≠ "java/lang/invoke/VarHandle" ∧ (parseMethodDescriptor yX5_readPair.desc).map (fun d => d.parameters.length) = some 0 := by decide +kernel
def f_X5_readPair (h : Hp) (a0 : Nat) : Option (Int32 × Hp) := (gR h a0 5 0).bind fun x1 => (gI h x1 2 2).bind fun x2 => (f_J6_bitCount_0f7a4 h x2).bind fun x3 => if x3 < (9 : Int32) then (if oK h a0 5 = true then (f_X5_readNumber h a0 (15 : Int32)).bind fun x4 => if x4.1 = 0 then (some (((0 : Int32), x4.2))) else ((gI x4.2 a0 5 6).bind fun x5 => (pV x4.2 a0 5 7 (.int x5)).bind fun h6 => (gR h6 a0 5 0).bind fun x7 => (gI h6 a0 5 7).bind fun x8 => if oK h6 x7 2 = true then (f_X2_setPair h6 x7 x8 (1 : Int32)).bind fun x9 => if x9.1 = (-1 : Int32) then (if oK x9.2 a0 5 = true then (f_X5_fails x9.2 a0 (3 : Int32)).bind fun x11 => if x11.1 = 0 ∨ x11.1 = 1 then some ((x11.1, x11.2)) else none else none) else (if oK x9.2 a0 5 = true then (f_X5_advance x9.2 a0).bind fun h10 => some (((1 : Int32), h10)) else none) else none) else none) else (if oK h a0 5 = true then (f_X5_fails h a0 (4 : Int32)).bind fun x12 => if x12.1 = 0 ∨ x12.1 = 1 then some ((x12.1, x12.2)) else none else none)
set_option maxHeartbeats 4000000 in
set_option maxRecDepth 100000 in
theorem t_X5_readPair {g : GT} {l : Launch} {h : Hp} {a0 : Nat} {r : (Int32 × Hp)} (hf : f_X5_readPair h a0 = some r) : PM g l 4 0 0 yX5_readPair wsX5_readPair [.ref a0] h (fun r9 h9 => r9 = some (.int r.1) ∧ h9 = r.2) := by
  refine pm_of (M := m_X5_readPair) (by decide) rfl rfl rfl (Nat.le_of_ble_eq_true rfl) (lo := [some (.ref a0)]) rfl ?_
  rw [f_X5_readPair] at hf
  refine pw_aload_n dX5_readPair_0 rfl ?_
  refine q_gR hf rfl (by decide) w9_X5_readPair_X5 (by decide +kernel) dX5_readPair_1 (fun x1 hf => ?_)
  refine q_gIN (host := "TwinRows") hf rfl (by decide) w9_X5_readPair_X2 (by decide +kernel) dX5_readPair_4 (fun x2 hf => ?_)
  refine q_callS_i (kc2 := 0) (ks2 := 0) (as := [.int x2]) (rest := []) hf (fun x9 e9 => t_J6_bitCount_0f7a4 e9) gX5_readPair_J6_bitCount_0f7a4 rfl hd9_J6_bitCount_0f7a4 rfl ⟨(by decide), by decide⟩ ⟨rfl, rfl⟩ (Nat.le_of_ble_eq_true rfl) dX5_readPair_7 rfl (fun x3 hf => ?_)
  refine pw_bipush (v := (9)) dX5_readPair_10 (by decide) ?_
  refine q_icmp_lt (tgt := 21) hf dX5_readPair_12 (by decide) (fun hf _ => ?_) (fun hf _ => ?_)
  · refine pw_aload_n dX5_readPair_21 rfl ?_
    refine pw_bipush (v := (15)) dX5_readPair_22 (by decide) ?_
    refine q_callV_iw (kc2 := 0) (ks2 := 0) (as := [.int (15 : Int32)]) (rest := []) hf (fun x9 e9 => t_X5_readNumber e9) gX5_readPair_X5_readNumber rfl hd9_X5_readNumber rfl rfl ⟨(by decide), by decide⟩ ⟨rfl, rfl⟩ (Nat.le_of_ble_eq_true rfl) dX5_readPair_24 rfl (fun x4 hf => ?_)
    refine q_if_ne (tgt := 32) hf dX5_readPair_27 (by decide) (fun hf _ => ?_) (fun hf _ => ?_)
    · refine pw_aload_n dX5_readPair_32 rfl ?_
      refine pw_aload_n dX5_readPair_33 rfl ?_
      refine q_gI hf rfl (by decide) w9_X5_readPair_X5 (by decide +kernel) dX5_readPair_34 (fun x5 hf => ?_)
      refine q_pV (ty := .int) hf tyX5 tyX5_ok nmX5 rfl (by decide) w9_X5_readPair_X5 (by decide +kernel) rfl (by decide +kernel) rfl rfl dX5_readPair_37 (fun h6 hf => ?_)
      refine pw_aload_n dX5_readPair_40 rfl ?_
      refine q_gR hf rfl (by decide) w9_X5_readPair_X5 (by decide +kernel) dX5_readPair_41 (fun x7 hf => ?_)
      refine pw_aload_n dX5_readPair_44 rfl ?_
      refine q_gI hf rfl (by decide) w9_X5_readPair_X5 (by decide +kernel) dX5_readPair_45 (fun x8 hf => ?_)
      refine pw_iconst (v := (1)) dX5_readPair_48 (by decide) ?_
      refine q_callV_iw (kc2 := 0) (ks2 := 0) (as := [.int x8, .int (1 : Int32)]) (rest := []) hf (fun x9 e9 => t_X2_setPair e9) gX5_readPair_X2_setPair rfl hd9_X2_setPair rfl rfl ⟨(by decide), by decide⟩ ⟨rfl, rfl⟩ (Nat.le_of_ble_eq_true rfl) dX5_readPair_49 rfl (fun x9 hf => ?_)
      refine pw_iconst (v := (-1)) dX5_readPair_52 (by decide) ?_
      refine q_icmp_ne (tgt := 62) hf dX5_readPair_53 (by decide) (fun hf _ => ?_) (fun hf _ => ?_)
      · refine pw_aload_n dX5_readPair_62 rfl ?_
        refine q_callV_v (kc2 := 0) (ks2 := 0) (as := []) (rest := []) hf (fun x9 e9 => t_X5_advance e9) gX5_readPair_X5_advance rfl hd9_X5_advance rfl rfl ⟨(by decide), by decide⟩ ⟨rfl, rfl⟩ (Nat.le_of_ble_eq_true rfl) dX5_readPair_63 rfl (fun h10 hf => ?_)
        refine pw_iconst (v := (1)) dX5_readPair_66 (by decide) ?_
        exact pw_iret (x := (1 : Int32)) rfl rfl dX5_readPair_67 (ret_iw hf)
      · refine pw_aload_n dX5_readPair_56 rfl ?_
        refine pw_iconst (v := (3)) dX5_readPair_57 (by decide) ?_
        refine q_callV_iw (kc2 := 0) (ks2 := 0) (as := [.int (3 : Int32)]) (rest := []) hf (fun x9 e9 => t_X5_fails e9) gX5_readPair_X5_fails rfl hd9_X5_fails rfl rfl ⟨(by decide), by decide⟩ ⟨rfl, rfl⟩ (Nat.le_of_ble_eq_true rfl) dX5_readPair_58 rfl (fun x11 hf => ?_)
        obtain ⟨hb9, hf⟩ := iteN hf
        exact pw_iret (x := x11.1) rfl (narZ hb9) dX5_readPair_61 (ret_iw hf)
    · refine pw_iconst (v := (0)) dX5_readPair_30 (by decide) ?_
      exact pw_iret (x := (0 : Int32)) rfl rfl dX5_readPair_31 (ret_iw hf)
  · refine pw_aload_n dX5_readPair_15 rfl ?_
    refine pw_iconst (v := (4)) dX5_readPair_16 (by decide) ?_
    refine q_callV_iw (kc2 := 0) (ks2 := 0) (as := [.int (4 : Int32)]) (rest := []) hf (fun x9 e9 => t_X5_fails e9) gX5_readPair_X5_fails rfl hd9_X5_fails rfl rfl ⟨(by decide), by decide⟩ ⟨rfl, rfl⟩ (Nat.le_of_ble_eq_true rfl) dX5_readPair_17 rfl (fun x12 hf => ?_)
    obtain ⟨hb9, hf⟩ := iteN hf
    exact pw_iret (x := x12.1) rfl (narZ hb9) dX5_readPair_20 (ret_iw hf)
/-! X5_readPin -/
abbrev m_X5_readPin : MD := (cX5_readPin, RX5, "readPin", wsX5_readPin, 1, (some .boolean))
theorem w9_X5_readPin_X2 : ∀ w ∈ u_ws RX2 TX2 4, w ∈ wsX5_readPin := by decide +kernel
theorem w9_X5_readPin_X5 : ∀ w ∈ u_ws RX5 TX5 9, w ∈ wsX5_readPin := by decide +kernel
theorem hd9_X5_readPin : yX5_readPin.cls = RX5 ∧ yX5_readPin.cls ≠ "java/lang/invoke/MethodHandle" ∧ yX5_readPin.cls ≠ "java/lang/invoke/VarHandle" ∧ (parseMethodDescriptor yX5_readPin.desc).map (fun d => d.parameters.length) = some 0 := by decide +kernel
def f_X5_readPin (h : Hp) (a0 : Nat) : Option (Int32 × Hp) := (gR h a0 5 0).bind fun x1 => (gI h x1 2 0).bind fun x2 => (gI h a0 5 7).bind fun x3 => if oK h a0 5 = true then (f_X5_readNumber h a0 (x2 - x3)).bind fun x4 => if x4.1 = 0 then (some (((0 : Int32), x4.2))) else ((gR x4.2 a0 5 0).bind fun x5 => (gI x4.2 a0 5 7).bind fun x6 => (gI x4.2 a0 5 6).bind fun x7 => if oK x4.2 x5 2 = true then (f_X2_setPin x4.2 x5 x6 x7).bind fun x8 => if x8.1 = 0 then (if oK x8.2 a0 5 = true then (f_X5_advance x8.2 a0).bind fun h9 => some (((1 : Int32), h9)) else none) else (if oK x8.2 a0 5 = true then (f_X5_fails x8.2 a0 (3 : Int32)).bind fun x10 => if x10.1 = 0 ∨ x10.1 = 1 then some ((x10.1, x10.2)) else none else none) else none) else none
set_option maxHeartbeats 4000000 in
set_option maxRecDepth 100000 in
theorem t_X5_readPin {g : GT} {l : Launch} {h : Hp} {a0 : Nat} {r : (Int32 × Hp)} (hf : f_X5_readPin h a0 = some r) : PM g l 4 0 0 yX5_readPin wsX5_readPin [.ref a0] h (fun r9 h9 => r9 = some (.int r.1) ∧ h9 = r.2) := by
  refine pm_of (M := m_X5_readPin) (by decide) rfl rfl rfl (Nat.le_of_ble_eq_true rfl) (lo := [some (.ref a0)]) rfl ?_
  rw [f_X5_readPin] at hf
  refine pw_aload_n dX5_readPin_0 rfl ?_
  refine pw_aload_n dX5_readPin_1 rfl ?_
  refine q_gR hf rfl (by decide) w9_X5_readPin_X5 (by decide +kernel) dX5_readPin_2 (fun x1 hf => ?_)
  refine q_gIN (host := "TwinRows") hf rfl (by decide) w9_X5_readPin_X2 (by decide +kernel) dX5_readPin_5 (fun x2 hf => ?_)
  refine pw_aload_n dX5_readPin_8 rfl ?_
  refine q_gI hf rfl (by decide) w9_X5_readPin_X5 (by decide +kernel) dX5_readPin_9 (fun x3 hf => ?_)
  refine pw_isub dX5_readPin_12 ?_
  refine q_callV_iw (kc2 := 0) (ks2 := 0) (as := [.int (x2 - x3)]) (rest := []) hf (fun x9 e9 => t_X5_readNumber e9) gX5_readPin_X5_readNumber rfl hd9_X5_readNumber rfl rfl ⟨(by decide), by decide⟩ ⟨rfl, rfl⟩ (Nat.le_of_ble_eq_true rfl) dX5_readPin_13 rfl (fun x4 hf => ?_)
  refine q_if_ne (tgt := 21) hf dX5_readPin_16 (by decide) (fun hf _ => ?_) (fun hf _ => ?_)
  · refine pw_aload_n dX5_readPin_21 rfl ?_
    refine q_gR hf rfl (by decide) w9_X5_readPin_X5 (by decide +kernel) dX5_readPin_22 (fun x5 hf => ?_)
    refine pw_aload_n dX5_readPin_25 rfl ?_
    refine q_gI hf rfl (by decide) w9_X5_readPin_X5 (by decide +kernel) dX5_readPin_26 (fun x6 hf => ?_)
    refine pw_aload_n dX5_readPin_29 rfl ?_
    refine q_gI hf rfl (by decide) w9_X5_readPin_X5 (by decide +kernel) dX5_readPin_30 (fun x7 hf => ?_)
    refine q_callV_iw (kc2 := 0) (ks2 := 0) (as := [.int x6, .int x7]) (rest := []) hf (fun x9 e9 => t_X2_setPin e9) gX5_readPin_X2_setPin rfl hd9_X2_setPin rfl rfl ⟨(by decide), by decide⟩ ⟨rfl, rfl⟩ (Nat.le_of_ble_eq_true rfl) dX5_readPin_33 rfl (fun x8 hf => ?_)
    refine q_if_eq (tgt := 45) hf dX5_readPin_36 (by decide) (fun hf _ => ?_) (fun hf _ => ?_)
    · refine pw_aload_n dX5_readPin_45 rfl ?_
      refine q_callV_v (kc2 := 0) (ks2 := 0) (as := []) (rest := []) hf (fun x9 e9 => t_X5_advance e9) gX5_readPin_X5_advance rfl hd9_X5_advance rfl rfl ⟨(by decide), by decide⟩ ⟨rfl, rfl⟩ (Nat.le_of_ble_eq_true rfl) dX5_readPin_46 rfl (fun h9 hf => ?_)
      refine pw_iconst (v := (1)) dX5_readPin_49 (by decide) ?_
      exact pw_iret (x := (1 : Int32)) rfl rfl dX5_readPin_50 (ret_iw hf)
    · refine pw_aload_n dX5_readPin_39 rfl ?_
      refine pw_iconst (v := (3)) dX5_readPin_40 (by decide) ?_
      refine q_callV_iw (kc2 := 0) (ks2 := 0) (as := [.int (3 : Int32)]) (rest := []) hf (fun x9 e9 => t_X5_fails e9) gX5_readPin_X5_fails rfl hd9_X5_fails rfl rfl ⟨(by decide), by decide⟩ ⟨rfl, rfl⟩ (Nat.le_of_ble_eq_true rfl) dX5_readPin_41 rfl (fun x10 hf => ?_)
      obtain ⟨hb9, hf⟩ := iteN hf
      exact pw_iret (x := x10.1) rfl (narZ hb9) dX5_readPin_44 (ret_iw hf)
  · refine pw_iconst (v := (0)) dX5_readPin_19 (by decide) ?_
    exact pw_iret (x := (0 : Int32)) rfl rfl dX5_readPin_20 (ret_iw hf)
/-! X5_readRow -/
abbrev m_X5_readRow : MD := (cX5_readRow, RX5, "readRow", wsX5_readRow, 2, (some .boolean))
theorem hd9_X5_readRow : yX5_readRow.cls = RX5 ∧ yX5_readRow.cls ≠ "java/lang/invoke/MethodHandle" ∧ yX5_readRow.cls ≠ "java/lang/invoke/VarHandle" ∧ (parseMethodDescriptor yX5_readRow.desc).map (fun d => d.parameters.length) = some 1 := by decide +kernel
def f_X5_readRow (h : Hp) (a0 : Nat) (a1 : Int32) : Option (Int32 × Hp) := if a1 = 0 then (if oK h a0 5 = true then (f_X5_isWord h a0 (1 : Fin 4)).bind fun x1 => if x1 = 0 then (if oK h a0 5 = true then (f_X5_isWord h a0 (2 : Fin 4)).bind fun x2 => if x2 = 0 then (if oK h a0 5 = true then (f_X5_fails h a0 (1 : Int32)).bind fun x6 => if x6.1 = 0 ∨ x6.1 = 1 then some ((x6.1, x6.2)) else none else none) else (if oK h a0 5 = true then (f_X5_readPair h a0).bind fun x3 => if x3.1 = 0 then (some (((0 : Int32), x3.2))) else (if oK x3.2 a0 5 = true then (f_X5_isWord x3.2 a0 (3 : Fin 4)).bind fun x4 => if x4 = 0 then (some (((1 : Int32), x3.2))) else (if oK x3.2 a0 5 = true then (f_X5_readPin x3.2 a0).bind fun x5 => if x5.1 = 0 then (some (((0 : Int32), x5.2))) else (some (((1 : Int32), x5.2))) else none) else none) else none) else none) else (if oK h a0 5 = true then (f_X5_readHole h a0).bind fun x7 => if x7.1 = 0 ∨ x7.1 = 1 then some ((x7.1, x7.2)) else none else none) else none) else (if oK h a0 5 = true then (f_X5_isWord h a0 (0 : Fin 4)).bind fun x8 => if x8 = 0 then (if oK h a0 5 = true then (f_X5_fails h a0 (1 : Int32)).bind fun x9 => if x9.1 = 0 ∨ x9.1 = 1 then some ((x9.1, x9.2)) else none else none) else (if oK h a0 5 = true then (f_X5_readCells h a0).bind fun x10 => if x10.1 = 0 ∨ x10.1 = 1 then some ((x10.1, x10.2)) else none else none) else none)
set_option maxHeartbeats 4000000 in
set_option maxRecDepth 100000 in
theorem t_X5_readRow {g : GT} {l : Launch} {h : Hp} {a0 : Nat} {a1 : Int32} {r : (Int32 × Hp)} (hf : f_X5_readRow h a0 a1 = some r) : PM g l 6 0 0 yX5_readRow wsX5_readRow [.ref a0, .int a1] h (fun r9 h9 => r9 = some (.int r.1) ∧ h9 = r.2) := by
  refine pm_of (M := m_X5_readRow) (by decide) rfl rfl rfl (Nat.le_of_ble_eq_true rfl) (lo := [some (.ref a0), some (.int a1)]) rfl ?_
  rw [f_X5_readRow] at hf
  refine pw_iload_n dX5_readRow_0 rfl ?_
  refine q_if_eq (tgt := 26) hf dX5_readRow_1 (by decide) (fun hf _ => ?_) (fun hf _ => ?_)
  · refine pw_aload_n dX5_readRow_26 rfl ?_
    refine pw_ldcS (a := 1) rfl rfl dX5_readRow_27 ?_
    refine q_callV_i (kc2 := 0) (ks2 := 0) (as := [.float (c4 (1 : Fin 4))]) (rest := []) hf (fun x9 e9 => t_X5_isWord e9) gX5_readRow_X5_isWord rfl hd9_X5_isWord rfl rfl ⟨(by decide), by decide⟩ ⟨rfl, rfl⟩ (Nat.le_of_ble_eq_true rfl) dX5_readRow_29 rfl (fun x1 hf => ?_)
    refine q_if_eq (tgt := 40) hf dX5_readRow_32 (by decide) (fun hf _ => ?_) (fun hf _ => ?_)
    · refine pw_aload_n dX5_readRow_40 rfl ?_
      refine pw_ldcS (a := 2) rfl rfl dX5_readRow_41 ?_
      refine q_callV_i (kc2 := 0) (ks2 := 0) (as := [.float (c4 (2 : Fin 4))]) (rest := []) hf (fun x9 e9 => t_X5_isWord e9) gX5_readRow_X5_isWord rfl hd9_X5_isWord rfl rfl ⟨(by decide), by decide⟩ ⟨rfl, rfl⟩ (Nat.le_of_ble_eq_true rfl) dX5_readRow_43 rfl (fun x2 hf => ?_)
      refine q_if_ne (tgt := 55) hf dX5_readRow_46 (by decide) (fun hf _ => ?_) (fun hf _ => ?_)
      · refine pw_aload_n dX5_readRow_55 rfl ?_
        refine q_callV_iw (kc2 := 0) (ks2 := 0) (as := []) (rest := []) hf (fun x9 e9 => t_X5_readPair e9) gX5_readRow_X5_readPair rfl hd9_X5_readPair rfl rfl ⟨(by decide), by decide⟩ ⟨rfl, rfl⟩ (Nat.le_of_ble_eq_true rfl) dX5_readRow_56 rfl (fun x3 hf => ?_)
        refine q_if_eq (tgt := 82) hf dX5_readRow_59 (by decide) (fun hf _ => ?_) (fun hf _ => ?_)
        · refine pw_iconst (v := (0)) dX5_readRow_82 (by decide) ?_
          exact pw_iret (x := (0 : Int32)) rfl rfl dX5_readRow_83 (ret_iw hf)
        · refine pw_aload_n dX5_readRow_62 rfl ?_
          refine pw_ldcS (a := 3) rfl rfl dX5_readRow_63 ?_
          refine q_callV_i (kc2 := 0) (ks2 := 0) (as := [.float (c4 (3 : Fin 4))]) (rest := []) hf (fun x9 e9 => t_X5_isWord e9) gX5_readRow_X5_isWord rfl hd9_X5_isWord rfl rfl ⟨(by decide), by decide⟩ ⟨rfl, rfl⟩ (Nat.le_of_ble_eq_true rfl) dX5_readRow_65 rfl (fun x4 hf => ?_)
          refine q_if_eq (tgt := 78) hf dX5_readRow_68 (by decide) (fun hf _ => ?_) (fun hf _ => ?_)
          · refine pw_iconst (v := (1)) dX5_readRow_78 (by decide) ?_
            refine pw_goto (tgt := 83) dX5_readRow_79 (by decide) ?_
            exact pw_iret (x := (1 : Int32)) rfl rfl dX5_readRow_83 (ret_iw hf)
          · refine pw_aload_n dX5_readRow_71 rfl ?_
            refine q_callV_iw (kc2 := 0) (ks2 := 0) (as := []) (rest := []) hf (fun x9 e9 => t_X5_readPin e9) gX5_readRow_X5_readPin rfl hd9_X5_readPin rfl rfl ⟨(by decide), by decide⟩ ⟨rfl, rfl⟩ (Nat.le_of_ble_eq_true rfl) dX5_readRow_72 rfl (fun x5 hf => ?_)
            refine q_if_eq (tgt := 82) hf dX5_readRow_75 (by decide) (fun hf _ => ?_) (fun hf _ => ?_)
            · refine pw_iconst (v := (0)) dX5_readRow_82 (by decide) ?_
              exact pw_iret (x := (0 : Int32)) rfl rfl dX5_readRow_83 (ret_iw hf)
            · refine pw_iconst (v := (1)) dX5_readRow_78 (by decide) ?_
              refine pw_goto (tgt := 83) dX5_readRow_79 (by decide) ?_
              exact pw_iret (x := (1 : Int32)) rfl rfl dX5_readRow_83 (ret_iw hf)
      · refine pw_aload_n dX5_readRow_49 rfl ?_
        refine pw_iconst (v := (1)) dX5_readRow_50 (by decide) ?_
        refine q_callV_iw (kc2 := 0) (ks2 := 0) (as := [.int (1 : Int32)]) (rest := []) hf (fun x9 e9 => t_X5_fails e9) gX5_readRow_X5_fails rfl hd9_X5_fails rfl rfl ⟨(by decide), by decide⟩ ⟨rfl, rfl⟩ (Nat.le_of_ble_eq_true rfl) dX5_readRow_51 rfl (fun x6 hf => ?_)
        obtain ⟨hb9, hf⟩ := iteN hf
        exact pw_iret (x := x6.1) rfl (narZ hb9) dX5_readRow_54 (ret_iw hf)
    · refine pw_aload_n dX5_readRow_35 rfl ?_
      refine q_callV_iw (kc2 := 0) (ks2 := 0) (as := []) (rest := []) hf (fun x9 e9 => t_X5_readHole e9) gX5_readRow_X5_readHole rfl hd9_X5_readHole rfl rfl ⟨(by decide), by decide⟩ ⟨rfl, rfl⟩ (Nat.le_of_ble_eq_true rfl) dX5_readRow_36 rfl (fun x7 hf => ?_)
      obtain ⟨hb9, hf⟩ := iteN hf
      exact pw_iret (x := x7.1) rfl (narZ hb9) dX5_readRow_39 (ret_iw hf)
  · refine pw_aload_n dX5_readRow_4 rfl ?_
    refine pw_ldcS (a := 0) rfl rfl dX5_readRow_5 ?_
    refine q_callV_i (kc2 := 0) (ks2 := 0) (as := [.float (c4 (0 : Fin 4))]) (rest := []) hf (fun x9 e9 => t_X5_isWord e9) gX5_readRow_X5_isWord rfl hd9_X5_isWord rfl rfl ⟨(by decide), by decide⟩ ⟨rfl, rfl⟩ (Nat.le_of_ble_eq_true rfl) dX5_readRow_7 rfl (fun x8 hf => ?_)
    refine q_if_eq (tgt := 20) hf dX5_readRow_10 (by decide) (fun hf _ => ?_) (fun hf _ => ?_)
    · refine pw_aload_n dX5_readRow_20 rfl ?_
      refine pw_iconst (v := (1)) dX5_readRow_21 (by decide) ?_
      refine q_callV_iw (kc2 := 0) (ks2 := 0) (as := [.int (1 : Int32)]) (rest := []) hf (fun x9 e9 => t_X5_fails e9) gX5_readRow_X5_fails rfl hd9_X5_fails rfl rfl ⟨(by decide), by decide⟩ ⟨rfl, rfl⟩ (Nat.le_of_ble_eq_true rfl) dX5_readRow_22 rfl (fun x9 hf => ?_)
      obtain ⟨hb9, hf⟩ := iteN hf
      exact pw_iret (x := x9.1) rfl (narZ hb9) dX5_readRow_25 (ret_iw hf)
    · refine pw_aload_n dX5_readRow_13 rfl ?_
      refine q_callV_iw (kc2 := 0) (ks2 := 0) (as := []) (rest := []) hf (fun x9 e9 => t_X5_readCells e9) gX5_readRow_X5_readCells rfl hd9_X5_readCells rfl rfl ⟨(by decide), by decide⟩ ⟨rfl, rfl⟩ (Nat.le_of_ble_eq_true rfl) dX5_readRow_14 rfl (fun x10 hf => ?_)
      refine pw_goto (tgt := 25) dX5_readRow_17 (by decide) ?_
      obtain ⟨hb9, hf⟩ := iteN hf
      exact pw_iret (x := x10.1) rfl (narZ hb9) dX5_readRow_25 (ret_iw hf)
/-! X5_endsRow -/
abbrev m_X5_endsRow : MD := (cX5_endsRow, RX5, "endsRow", wsX5_endsRow, 1, (some .boolean))
theorem w9_X5_endsRow_X5 : ∀ w ∈ u_ws RX5 TX5 9, w ∈ wsX5_endsRow := by decide +kernel
theorem hd9_X5_endsRow : yX5_endsRow.cls = RX5 ∧ yX5_endsRow.cls ≠ "java/lang/invoke/MethodHandle" ∧ yX5_endsRow.cls ≠ "java/lang/invoke/VarHandle" ∧ (parseMethodDescriptor yX5_endsRow.desc).map (fun d => d.parameters.length) = some 0 := by decide +kernel
def f_X5_endsRow (h : Hp) (a0 : Nat) : Option (Int32 × Hp) := (gI h a0 5 3).bind fun x1 => if x1 = (3 : Int32) then (some (((1 : Int32), h))) else (if oK h a0 5 = true then (f_X5_fails h a0 (1 : Int32)).bind fun x2 => if x2.1 = 0 then (some (((0 : Int32), x2.2))) else (some (((1 : Int32), x2.2))) else none)
set_option maxHeartbeats 4000000 in
set_option maxRecDepth 100000 in
theorem t_X5_endsRow {g : GT} {l : Launch} {h : Hp} {a0 : Nat} {r : (Int32 × Hp)} (hf : f_X5_endsRow h a0 = some r) : PM g l 2 0 0 yX5_endsRow wsX5_endsRow [.ref a0] h (fun r9 h9 => r9 = some (.int r.1) ∧ h9 = r.2) := by
  refine pm_of (M := m_X5_endsRow) (by decide) rfl rfl rfl (Nat.le_of_ble_eq_true rfl) (lo := [some (.ref a0)]) rfl ?_
  rw [f_X5_endsRow] at hf
  refine pw_aload_n dX5_endsRow_0 rfl ?_
  refine q_gI hf rfl (by decide) w9_X5_endsRow_X5 (by decide +kernel) dX5_endsRow_1 (fun x1 hf => ?_)
  refine pw_iconst (v := (3)) dX5_endsRow_4 (by decide) ?_
  refine q_icmp_eq (tgt := 16) hf dX5_endsRow_5 (by decide) (fun hf _ => ?_) (fun hf _ => ?_)
  · refine pw_iconst (v := (1)) dX5_endsRow_16 (by decide) ?_
    refine pw_goto (tgt := 21) dX5_endsRow_17 (by decide) ?_
    exact pw_iret (x := (1 : Int32)) rfl rfl dX5_endsRow_21 (ret_iw hf)
  · refine pw_aload_n dX5_endsRow_8 rfl ?_
    refine pw_iconst (v := (1)) dX5_endsRow_9 (by decide) ?_
    refine q_callV_iw (kc2 := 0) (ks2 := 0) (as := [.int (1 : Int32)]) (rest := []) hf (fun x9 e9 => t_X5_fails e9) gX5_endsRow_X5_fails rfl hd9_X5_fails rfl rfl ⟨(by decide), by decide⟩ ⟨rfl, rfl⟩ (Nat.le_of_ble_eq_true rfl) dX5_endsRow_10 rfl (fun x2 hf => ?_)
    refine q_if_eq (tgt := 20) hf dX5_endsRow_13 (by decide) (fun hf _ => ?_) (fun hf _ => ?_)
    · refine pw_iconst (v := (0)) dX5_endsRow_20 (by decide) ?_
      exact pw_iret (x := (0 : Int32)) rfl rfl dX5_endsRow_21 (ret_iw hf)
    · refine pw_iconst (v := (1)) dX5_endsRow_16 (by decide) ?_
      refine pw_goto (tgt := 21) dX5_endsRow_17 (by decide) ?_
      exact pw_iret (x := (1 : Int32)) rfl rfl dX5_endsRow_21 (ret_iw hf)
/-! X5_read -/
abbrev m_X5_read : MD := (cX5_read, RX5, "read", wsX5_read, 4, (some .int))
theorem w9_X5_read_X5 : ∀ w ∈ u_ws RX5 TX5 9, w ∈ wsX5_read := by decide +kernel
theorem hd9_X5_read : yX5_read.cls = RX5 ∧ yX5_read.cls ≠ "java/lang/invoke/MethodHandle" ∧ yX5_read.cls ≠ "java/lang/invoke/VarHandle" ∧ (parseMethodDescriptor yX5_read.desc).map (fun d => d.parameters.length) = some 2 := by decide +kernel
def f_X5_read_56 : Nat → Nat → Int32 → Hp → Option (Int32 × Hp)
  | 0, _, _, _ => none
  | n + 1, v0, v3, h => (gI h v0 5 3).bind fun x1 => if x1 = 0 then (some ((v3, h))) else (if (340 : Int32) ≤ v3 then (some ((v3, h))) else (if v3 = 0 then (if oK h v0 5 = true then (f_X5_readRow h v0 (1 : Int32)).bind fun x7 => if x7.1 = 0 then ((gI x7.2 v0 5 4).bind fun x8 => some (((-1 : Int32) - x8, x7.2))) else (if oK x7.2 v0 5 = true then (f_X5_endsRow x7.2 v0).bind fun x9 => if x9.1 = 0 then ((gI x9.2 v0 5 4).bind fun x11 => some (((-1 : Int32) - x11, x9.2))) else (if oK x9.2 v0 5 = true then (f_X5_advance x9.2 v0).bind fun h10 => f_X5_read_56 n v0 (v3 + (1)) h10 else none) else none) else none) else (if oK h v0 5 = true then (f_X5_readRow h v0 (0 : Int32)).bind fun x2 => if x2.1 = 0 then ((gI x2.2 v0 5 4).bind fun x3 => some (((-1 : Int32) - x3, x2.2))) else (if oK x2.2 v0 5 = true then (f_X5_endsRow x2.2 v0).bind fun x4 => if x4.1 = 0 then ((gI x4.2 v0 5 4).bind fun x6 => some (((-1 : Int32) - x6, x4.2))) else (if oK x4.2 v0 5 = true then (f_X5_advance x4.2 v0).bind fun h5 => f_X5_read_56 n v0 (v3 + (1)) h5 else none) else none) else none)))
set_option maxHeartbeats 4000000 in
set_option maxRecDepth 100000 in
theorem w_X5_read_56 {g : GT} {l : Launch} {r : (Int32 × Hp)} : ∀ (n : Nat) (v0 : Nat) (v3 : Int32) (h : Hp), f_X5_read_56 n v0 v3 h = some r → PW g l m_X5_read 7 0 0 56 [some (.ref v0), none, none, some (.int v3)] [] h (fun r9 h9 => r9 = some (.int r.1) ∧ h9 = r.2) := by
  intro n
  induction n with
  | zero => intro v0 v3 h hf; cases hf
  | succ n ih =>
    intro v0 v3 h hf
    rw [f_X5_read_56] at hf
    refine pw_aload_n dX5_read_56 rfl ?_
    refine q_gI hf rfl (by decide) w9_X5_read_X5 (by decide +kernel) dX5_read_57 (fun x1 hf => ?_)
    refine q_if_eq (tgt := 110) hf dX5_read_60 (by decide) (fun hf _ => ?_) (fun hf _ => ?_)
    · refine pw_iload_n dX5_read_110 rfl ?_
      exact pw_iret (x := v3) rfl rfl dX5_read_111 (ret_iw hf)
    · refine pw_iload_n dX5_read_63 rfl ?_
      refine pw_sipush (v := (340)) dX5_read_64 (by decide) ?_
      refine q_icmp_ge (tgt := 110) hf dX5_read_67 (by decide) (fun hf _ => ?_) (fun hf _ => ?_)
      · refine pw_iload_n dX5_read_110 rfl ?_
        exact pw_iret (x := v3) rfl rfl dX5_read_111 (ret_iw hf)
      · refine pw_aload_n dX5_read_70 rfl ?_
        refine pw_iload_n dX5_read_71 rfl ?_
        refine q_if_ne (tgt := 79) hf dX5_read_72 (by decide) (fun hf _ => ?_) (fun hf _ => ?_)
        · refine pw_iconst (v := (0)) dX5_read_79 (by decide) ?_
          refine q_callV_iw (kc2 := 0) (ks2 := 0) (as := [.int (0 : Int32)]) (rest := []) hf (fun x9 e9 => t_X5_readRow e9) gX5_read_X5_readRow rfl hd9_X5_readRow rfl rfl ⟨(by decide), by decide⟩ ⟨rfl, rfl⟩ (Nat.le_of_ble_eq_true rfl) dX5_read_80 rfl (fun x2 hf => ?_)
          refine q_if_eq (tgt := 93) hf dX5_read_83 (by decide) (fun hf _ => ?_) (fun hf _ => ?_)
          · refine pw_iconst (v := (-1)) dX5_read_93 (by decide) ?_
            refine pw_aload_n dX5_read_94 rfl ?_
            refine q_gI hf rfl (by decide) w9_X5_read_X5 (by decide +kernel) dX5_read_95 (fun x3 hf => ?_)
            refine pw_isub dX5_read_98 ?_
            exact pw_iret (x := (-1 : Int32) - x3) rfl rfl dX5_read_99 (ret_iw hf)
          · refine pw_aload_n dX5_read_86 rfl ?_
            refine q_callV_iw (kc2 := 0) (ks2 := 0) (as := []) (rest := []) hf (fun x9 e9 => t_X5_endsRow e9) gX5_read_X5_endsRow rfl hd9_X5_endsRow rfl rfl ⟨(by decide), by decide⟩ ⟨rfl, rfl⟩ (Nat.le_of_ble_eq_true rfl) dX5_read_87 rfl (fun x4 hf => ?_)
            refine q_if_ne (tgt := 100) hf dX5_read_90 (by decide) (fun hf _ => ?_) (fun hf _ => ?_)
            · refine pw_iinc (v := v3 + (1)) dX5_read_100 rfl rfl (by decide) rfl ?_
              dsimp only [lset, lset2, clr]
              refine pw_aload_n dX5_read_103 rfl ?_
              refine q_callV_v (kc2 := 0) (ks2 := 0) (as := []) (rest := []) hf (fun x9 e9 => t_X5_advance e9) gX5_read_X5_advance rfl hd9_X5_advance rfl rfl ⟨(by decide), by decide⟩ ⟨rfl, rfl⟩ (Nat.le_of_ble_eq_true rfl) dX5_read_104 rfl (fun h5 hf => ?_)
              refine pw_goto (tgt := 56) dX5_read_107 (by decide) ?_
              exact pw_lo (lle_s rfl (lle_n (lle_n (lle_s rfl lle_0)))) (ih _ _ _ hf)
            · refine pw_iconst (v := (-1)) dX5_read_93 (by decide) ?_
              refine pw_aload_n dX5_read_94 rfl ?_
              refine q_gI hf rfl (by decide) w9_X5_read_X5 (by decide +kernel) dX5_read_95 (fun x6 hf => ?_)
              refine pw_isub dX5_read_98 ?_
              exact pw_iret (x := (-1 : Int32) - x6) rfl rfl dX5_read_99 (ret_iw hf)
        · refine pw_iconst (v := (1)) dX5_read_75 (by decide) ?_
          refine pw_goto (tgt := 80) dX5_read_76 (by decide) ?_
          refine q_callV_iw (kc2 := 0) (ks2 := 0) (as := [.int (1 : Int32)]) (rest := []) hf (fun x9 e9 => t_X5_readRow e9) gX5_read_X5_readRow rfl hd9_X5_readRow rfl rfl ⟨(by decide), by decide⟩ ⟨rfl, rfl⟩ (Nat.le_of_ble_eq_true rfl) dX5_read_80 rfl (fun x7 hf => ?_)
          refine q_if_eq (tgt := 93) hf dX5_read_83 (by decide) (fun hf _ => ?_) (fun hf _ => ?_)
          · refine pw_iconst (v := (-1)) dX5_read_93 (by decide) ?_
            refine pw_aload_n dX5_read_94 rfl ?_
            refine q_gI hf rfl (by decide) w9_X5_read_X5 (by decide +kernel) dX5_read_95 (fun x8 hf => ?_)
            refine pw_isub dX5_read_98 ?_
            exact pw_iret (x := (-1 : Int32) - x8) rfl rfl dX5_read_99 (ret_iw hf)
          · refine pw_aload_n dX5_read_86 rfl ?_
            refine q_callV_iw (kc2 := 0) (ks2 := 0) (as := []) (rest := []) hf (fun x9 e9 => t_X5_endsRow e9) gX5_read_X5_endsRow rfl hd9_X5_endsRow rfl rfl ⟨(by decide), by decide⟩ ⟨rfl, rfl⟩ (Nat.le_of_ble_eq_true rfl) dX5_read_87 rfl (fun x9 hf => ?_)
            refine q_if_ne (tgt := 100) hf dX5_read_90 (by decide) (fun hf _ => ?_) (fun hf _ => ?_)
            · refine pw_iinc (v := v3 + (1)) dX5_read_100 rfl rfl (by decide) rfl ?_
              dsimp only [lset, lset2, clr]
              refine pw_aload_n dX5_read_103 rfl ?_
              refine q_callV_v (kc2 := 0) (ks2 := 0) (as := []) (rest := []) hf (fun x9 e9 => t_X5_advance e9) gX5_read_X5_advance rfl hd9_X5_advance rfl rfl ⟨(by decide), by decide⟩ ⟨rfl, rfl⟩ (Nat.le_of_ble_eq_true rfl) dX5_read_104 rfl (fun h10 hf => ?_)
              refine pw_goto (tgt := 56) dX5_read_107 (by decide) ?_
              exact pw_lo (lle_s rfl (lle_n (lle_n (lle_s rfl lle_0)))) (ih _ _ _ hf)
            · refine pw_iconst (v := (-1)) dX5_read_93 (by decide) ?_
              refine pw_aload_n dX5_read_94 rfl ?_
              refine q_gI hf rfl (by decide) w9_X5_read_X5 (by decide +kernel) dX5_read_95 (fun x11 hf => ?_)
              refine pw_isub dX5_read_98 ?_
              exact pw_iret (x := (-1 : Int32) - x11) rfl rfl dX5_read_99 (ret_iw hf)
def f_X5_read (h : Hp) (a0 : Nat) (a1 : Nat) (a2 : Int32) : Option (Int32 × Hp) := (aN h a1).bind fun x1 => (pV h a0 5 2 (.int (if (if (340 : Int32) < x1 then (340 : Int32) else x1) < a2 then (if (340 : Int32) < x1 then (340 : Int32) else x1) else a2))).bind fun h2 => (gR h2 a0 5 1).bind fun x3 => (gI h2 a0 5 2).bind fun x4 => (cpA h2 1 a1 (0 : Int32) x3 (0 : Int32) x4).bind fun h5 => (pV h5 a0 5 5 (.int (0 : Int32))).bind fun h6 => (pV h6 a0 5 8 (.int (0 : Int32))).bind fun h7 => (gR h7 a0 5 0).bind fun x8 => if oK h7 x8 2 = true then (f_X2_begin h7 x8 (0 : Int32) (0 : Int32) (0 : Int32)).bind fun h9 => if oK h9 a0 5 = true then (f_X5_advance h9 a0).bind fun h10 => f_X5_read_56 4096 a0 (0 : Int32) h10 else none else none
set_option maxHeartbeats 4000000 in
set_option maxRecDepth 100000 in
theorem t_X5_read {g : GT} {l : Launch} {h : Hp} {a0 : Nat} {a1 : Nat} {a2 : Int32} {r : (Int32 × Hp)} (hf : f_X5_read h a0 a1 a2 = some r) : PM g l 7 0 0 yX5_read wsX5_read [.ref a0, .ref a1, .int a2] h (fun r9 h9 => r9 = some (.int r.1) ∧ h9 = r.2) := by
  refine pm_of (M := m_X5_read) (by decide) rfl rfl rfl (Nat.le_of_ble_eq_true rfl) (lo := [some (.ref a0), some (.ref a1), some (.int a2), none]) rfl ?_
  rw [f_X5_read] at hf
  refine pw_aload_n dX5_read_0 rfl ?_
  refine pw_iload_n dX5_read_1 rfl ?_
  refine pw_aload_n dX5_read_2 rfl ?_
  refine q_alen hf dX5_read_3 (fun x1 hf => ?_)
  refine pw_sipush (v := (340)) dX5_read_4 (by decide) ?_
  refine pw_min (by decide +kernel) (by decide +kernel) (by decide +kernel) (by decide +kernel) (by decide) (Nat.le_of_ble_eq_true rfl) dX5_read_7 ?_
  refine pw_min (by decide +kernel) (by decide +kernel) (by decide +kernel) (by decide +kernel) (by decide) (Nat.le_of_ble_eq_true rfl) dX5_read_10 ?_
  refine q_pV (ty := .int) hf tyX5 tyX5_ok nmX5 rfl (by decide) w9_X5_read_X5 (by decide +kernel) rfl (by decide +kernel) rfl rfl dX5_read_13 (fun h2 hf => ?_)
  refine pw_aload_n dX5_read_16 rfl ?_
  refine pw_iconst (v := (0)) dX5_read_17 (by decide) ?_
  refine pw_aload_n dX5_read_18 rfl ?_
  refine q_gR hf rfl (by decide) w9_X5_read_X5 (by decide +kernel) dX5_read_19 (fun x3 hf => ?_)
  refine pw_iconst (v := (0)) dX5_read_22 (by decide) ?_
  refine pw_aload_n dX5_read_23 rfl ?_
  refine q_gI hf rfl (by decide) w9_X5_read_X5 (by decide +kernel) dX5_read_24 (fun x4 hf => ?_)
  refine q_copy hf (by decide) (by decide) (by decide +kernel) (by decide +kernel) (by decide +kernel) (by decide +kernel) (by decide) (Nat.le_of_ble_eq_true rfl) dX5_read_27 (fun h5 hf => ?_)
  refine pw_aload_n dX5_read_30 rfl ?_
  refine pw_iconst (v := (0)) dX5_read_31 (by decide) ?_
  refine q_pV (ty := .int) hf tyX5 tyX5_ok nmX5 rfl (by decide) w9_X5_read_X5 (by decide +kernel) rfl (by decide +kernel) rfl rfl dX5_read_32 (fun h6 hf => ?_)
  refine pw_aload_n dX5_read_35 rfl ?_
  refine pw_iconst (v := (0)) dX5_read_36 (by decide) ?_
  refine q_pV (ty := .int) hf tyX5 tyX5_ok nmX5 rfl (by decide) w9_X5_read_X5 (by decide +kernel) rfl (by decide +kernel) rfl rfl dX5_read_37 (fun h7 hf => ?_)
  refine pw_aload_n dX5_read_40 rfl ?_
  refine q_gR hf rfl (by decide) w9_X5_read_X5 (by decide +kernel) dX5_read_41 (fun x8 hf => ?_)
  refine pw_iconst (v := (0)) dX5_read_44 (by decide) ?_
  refine pw_iconst (v := (0)) dX5_read_45 (by decide) ?_
  refine pw_iconst (v := (0)) dX5_read_46 (by decide) ?_
  refine q_callV_v (kc2 := 0) (ks2 := 0) (as := [.int (0 : Int32), .int (0 : Int32), .int (0 : Int32)]) (rest := []) hf (fun x9 e9 => t_X2_begin e9) gX5_read_X2_begin rfl hd9_X2_begin rfl rfl ⟨(by decide), by decide⟩ ⟨rfl, rfl⟩ (Nat.le_of_ble_eq_true rfl) dX5_read_47 rfl (fun h9 hf => ?_)
  refine pw_aload_n dX5_read_50 rfl ?_
  refine q_callV_v (kc2 := 0) (ks2 := 0) (as := []) (rest := []) hf (fun x9 e9 => t_X5_advance e9) gX5_read_X5_advance rfl hd9_X5_advance rfl rfl ⟨(by decide), by decide⟩ ⟨rfl, rfl⟩ (Nat.le_of_ble_eq_true rfl) dX5_read_51 rfl (fun h10 hf => ?_)
  refine pw_iconst (v := (0)) dX5_read_54 (by decide) ?_
  refine pw_istore_n dX5_read_55 (by decide) rfl ?_
  dsimp only [lset, lset2, clr]
  exact pw_lo (lle_s rfl (lle_n (lle_n (lle_s rfl lle_0)))) (w_X5_read_56 4096 _ _ _ hf)
