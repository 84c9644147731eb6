/-! X1_init -/
abbrev m_X1_init : MD := (cX1_init, RX1, "<init>", wsX1_init, 2, none)
theorem w9_X1_init_X1 : ∀ w ∈ u_ws RX1 TX1 8, w ∈ wsX1_init := by decide +kernel
theorem hd9_X1_init : yX1_init.cls = RX1 ∧ yX1_init.cls ≠ "java/lang/invoke/MethodHandle" ∧ yX1_init.cls ≠ "java/lang/invoke/VarHandle" ∧ (parseMethodDescriptor yX1_init.desc).map (fun d => d.parameters.length) = some 1 := by decide +kernel
def f_X1_init (h : Hp) (a0 : Nat) (a1 : Int32) : Option Hp := (nA h 2 19 (19 : Int32)).bind fun x1 => (pV x1.2 a0 1 1 (.ref x1.1)).bind fun h2 => (nA h2 0 16 (16 : Int32)).bind fun x3 => (pV x3.2 a0 1 2 (.ref x3.1)).bind fun h4 => (nA h4 0 10 (10 : Int32)).bind fun x5 => (pV x5.2 a0 1 3 (.ref x5.1)).bind fun h6 => (some (hmul h6 16 19)).bind fun h7 => (pV h7 a0 1 4 (.ref h6.1)).bind fun h8 => (pV h8 a0 1 5 (.int (0 : Int32))).bind fun h9 => (pV h9 a0 1 6 (.int (0 : Int32))).bind fun h10 => (pV h10 a0 1 7 (.int (0 : Int32))).bind fun h11 => (nA h11 2 2656 (if a1 < (0 : Int32) then (0 : Int32) else a1)).bind fun x12 => (pV x12.2 a0 1 0 (.ref x12.1)).bind fun h13 => some h13
theorem hd8_X1_init : yX1_init.cls ≠ "java/lang/invoke/MethodHandle" ∧ yX1_init.cls ≠ "java/lang/invoke/VarHandle" ∧ (parseMethodDescriptor yX1_init.desc).map (fun d => d.parameters.length) = some 1 := hd9_X1_init.2
set_option maxHeartbeats 4000000 in
set_option maxRecDepth 100000 in
theorem t_X1_init {g : GT} {l : Launch} {h : Hp} {a0 : Nat} {a1 : Int32} {r : Hp} (hf : f_X1_init h a0 a1 = some r) : PM g l 1 21 3021 yX1_init wsX1_init [.ref a0, .int a1] h (fun r9 h9 => r9 = none ∧ h9 = r) := by
  refine pm_of (M := m_X1_init) (by decide) rfl rfl rfl (Nat.le_of_ble_eq_true rfl) (lo := [some (.ref a0), some (.int a1)]) rfl ?_
  rw [f_X1_init] at hf
  refine pw_aload_n dX1_init_0 rfl ?_
  refine pw_obj (by decide +kernel) (by decide +kernel) (by decide +kernel) (by decide) (Nat.le_of_ble_eq_true rfl) dX1_init_1 ?_
  refine pw_aload_n dX1_init_4 rfl ?_
  refine pw_bipush (v := (19)) dX1_init_5 (by decide) ?_
  refine q_newa (kc2 := 20) (ks2 := 3002) hf (by decide) rfl (by decide +kernel) (by decide) ⟨rfl, rfl⟩ dX1_init_7 (fun x1 hf => ?_)
  refine q_pVF (ty := .array .long) hf tyX1 tyX1_ok nmX1 rfl (by decide) w9_X1_init_X1 (by decide +kernel) rfl rfl rfl (by decide +kernel) rfl rfl dX1_init_9 (fun h2 hf => ?_)
  refine pw_aload_n dX1_init_12 rfl ?_
  refine pw_bipush (v := (16)) dX1_init_13 (by decide) ?_
  refine q_newa (kc2 := 19) (ks2 := 2986) hf (by decide) rfl (by decide +kernel) (by decide) ⟨rfl, rfl⟩ dX1_init_15 (fun x3 hf => ?_)
  refine q_pVF (ty := .array .int) hf tyX1 tyX1_ok nmX1 rfl (by decide) w9_X1_init_X1 (by decide +kernel) rfl rfl rfl (by decide +kernel) rfl rfl dX1_init_17 (fun h4 hf => ?_)
  refine pw_aload_n dX1_init_20 rfl ?_
  refine pw_bipush (v := (10)) dX1_init_21 (by decide) ?_
  refine q_newa (kc2 := 18) (ks2 := 2976) hf (by decide) rfl (by decide +kernel) (by decide) ⟨rfl, rfl⟩ dX1_init_23 (fun x5 hf => ?_)
  refine q_pVF (ty := .array .int) hf tyX1 tyX1_ok nmX1 rfl (by decide) w9_X1_init_X1 (by decide +kernel) rfl rfl rfl (by decide +kernel) rfl rfl dX1_init_25 (fun h6 hf => ?_)
  refine pw_aload_n dX1_init_28 rfl ?_
  refine pw_bipush (v := (16)) dX1_init_29 (by decide) ?_
  refine pw_bipush (v := (19)) dX1_init_31 (by decide) ?_
  refine q_mul (kc2 := 1) (ks2 := 2656) hf ⟨by decide +kernel, by decide +kernel⟩ ⟨rfl, rfl⟩ dX1_init_33 (fun h7 hf => ?_)
  refine q_pVF (ty := .array (.array .int)) hf tyX1 tyX1_ok nmX1 rfl (by decide) w9_X1_init_X1 (by decide +kernel) rfl rfl rfl (by decide +kernel) rfl rfl dX1_init_37 (fun h8 hf => ?_)
  refine pw_aload_n dX1_init_40 rfl ?_
  refine pw_iconst (v := (0)) dX1_init_41 (by decide) ?_
  refine q_pV (ty := .boolean) hf tyX1 tyX1_ok nmX1 rfl (by decide) w9_X1_init_X1 (by decide +kernel) rfl (by decide +kernel) rfl rfl dX1_init_42 (fun h9 hf => ?_)
  refine pw_aload_n dX1_init_45 rfl ?_
  refine pw_iconst (v := (0)) dX1_init_46 (by decide) ?_
  refine q_pV (ty := .int) hf tyX1 tyX1_ok nmX1 rfl (by decide) w9_X1_init_X1 (by decide +kernel) rfl (by decide +kernel) rfl rfl dX1_init_47 (fun h10 hf => ?_)
  refine pw_aload_n dX1_init_50 rfl ?_
  refine pw_iconst (v := (0)) dX1_init_51 (by decide) ?_
  refine q_pV (ty := .int) hf tyX1 tyX1_ok nmX1 rfl (by decide) w9_X1_init_X1 (by decide +kernel) rfl (by decide +kernel) rfl rfl dX1_init_52 (fun h11 hf => ?_)
  refine pw_aload_n dX1_init_55 rfl ?_
  refine pw_iload_n dX1_init_56 rfl ?_
  refine pw_iconst (v := (0)) dX1_init_57 (by decide) ?_
  refine pw_max (by decide +kernel) (by decide +kernel) (by decide +kernel) (by decide +kernel) (by decide) (Nat.le_of_ble_eq_true rfl) dX1_init_58 ?_
  refine q_newa (kc2 := 0) (ks2 := 0) hf (by decide) rfl (by decide +kernel) (by decide) ⟨rfl, rfl⟩ dX1_init_61 (fun x12 hf => ?_)
  refine q_pVF (ty := .array .long) hf tyX1 tyX1_ok nmX1 rfl (by decide) w9_X1_init_X1 (by decide +kernel) rfl rfl rfl (by decide +kernel) rfl rfl dX1_init_63 (fun h13 hf => ?_)
  exact pw_vret rfl dX1_init_66 ⟨rfl, Option.some.inj hf⟩
/-! X1_nameDigits -/
abbrev m_X1_nameDigits : MD := (cX1_nameDigits, RX1, "nameDigits", wsX1_nameDigits, 4, none)
theorem w9_X1_nameDigits_X1 : ∀ w ∈ u_ws RX1 TX1 8, w ∈ wsX1_nameDigits := by decide +kernel
theorem hd9_X1_nameDigits : yX1_nameDigits.cls = RX1 ∧ yX1_nameDigits.cls ≠ "java/lang/invoke/MethodHandle" ∧ yX1_nameDigits.cls ≠ "java/lang/invoke/VarHandle" ∧ (parseMethodDescriptor yX1_nameDigits.desc).map (fun d => d.parameters.length) = some 1 := by decide +kernel
def f_X1_nameDigits_4 : Nat → Nat → Nat → Int32 → Int32 → Hp → Option Hp
  | 0, _, _, _, _, _ => none
  | n + 1, v0, v1, v2, v3, h => if (15 : Int32) < v3 then (some h) else ((gR h v0 1 2).bind fun x1 => (sI h 0 x1 v3 (0 : Int32)).bind fun h2 => if oK h2 v1 2 = true then (f_X2_hasPair h2 v1 v3).bind fun x3 => if x3 = 0 then (f_X1_nameDigits_4 n v0 v1 v2 (v3 + (1)) h2) else (if (9 : Int32) ≤ v2 then (f_X1_nameDigits_4 n v0 v1 v2 (v3 + (1)) h2) else ((gR h2 v0 1 2).bind fun x4 => (sI h2 0 x4 v3 (v2 + (1))).bind fun h5 => (gR h5 v0 1 3).bind fun x6 => (sI h5 0 x6 (v2 + (1)) v3).bind fun h7 => f_X1_nameDigits_4 n v0 v1 (v2 + (1)) (v3 + (1)) h7)) else none)
set_option maxHeartbeats 4000000 in
set_option maxRecDepth 100000 in
theorem w_X1_nameDigits_4 {g : GT} {l : Launch} {r : Hp} : ∀ (n : Nat) (v0 : Nat) (v1 : Nat) (v2 : Int32) (v3 : Int32) (h : Hp), f_X1_nameDigits_4 n v0 v1 v2 v3 h = some r → PW g l m_X1_nameDigits 3 0 0 4 [some (.ref v0), some (.ref v1), some (.int v2), some (.int v3)] [] h (fun r9 h9 => r9 = none ∧ h9 = r) := by
  intro n
  induction n with
  | zero => intro v0 v1 v2 v3 h hf; cases hf
  | succ n ih =>
    intro v0 v1 v2 v3 h hf
    rw [f_X1_nameDigits_4] at hf
    refine pw_iload_n dX1_nameDigits_4 rfl ?_
    refine pw_bipush (v := (15)) dX1_nameDigits_5 (by decide) ?_
    refine q_icmp_gt (tgt := 54) hf dX1_nameDigits_7 (by decide) (fun hf _ => ?_) (fun hf _ => ?_)
    · exact pw_vret rfl dX1_nameDigits_54 ⟨rfl, Option.some.inj hf⟩
    · refine pw_aload_n dX1_nameDigits_10 rfl ?_
      refine q_gR hf rfl (by decide) w9_X1_nameDigits_X1 (by decide +kernel) dX1_nameDigits_11 (fun x1 hf => ?_)
      refine pw_iload_n dX1_nameDigits_14 rfl ?_
      refine pw_iconst (v := (0)) dX1_nameDigits_15 (by decide) ?_
      refine q_iast hf dX1_nameDigits_16 (fun h2 hf => ?_)
      refine pw_aload_n dX1_nameDigits_17 rfl ?_
      refine pw_iload_n dX1_nameDigits_18 rfl ?_
      refine q_callV_i (kc2 := 0) (ks2 := 0) (as := [.int v3]) (rest := []) hf (fun x9 e9 => t_X2_hasPair e9) gX1_nameDigits_X2_hasPair rfl hd9_X2_hasPair rfl rfl ⟨(by decide), by decide⟩ ⟨rfl, rfl⟩ (Nat.le_of_ble_eq_true rfl) dX1_nameDigits_19 rfl (fun x3 hf => ?_)
      refine q_if_eq (tgt := 48) hf dX1_nameDigits_22 (by decide) (fun hf _ => ?_) (fun hf _ => ?_)
      · refine pw_iinc (v := v3 + (1)) dX1_nameDigits_48 rfl rfl (by decide) rfl ?_
        dsimp only [lset, lset2, clr]
        refine pw_goto (tgt := 4) dX1_nameDigits_51 (by decide) ?_
        exact pw_lo (lle_s rfl (lle_s rfl (lle_s rfl (lle_s rfl lle_0)))) (ih _ _ _ _ _ hf)
      · refine pw_iload_n dX1_nameDigits_25 rfl ?_
        refine pw_bipush (v := (9)) dX1_nameDigits_26 (by decide) ?_
        refine q_icmp_ge (tgt := 48) hf dX1_nameDigits_28 (by decide) (fun hf _ => ?_) (fun hf _ => ?_)
        · refine pw_iinc (v := v3 + (1)) dX1_nameDigits_48 rfl rfl (by decide) rfl ?_
          dsimp only [lset, lset2, clr]
          refine pw_goto (tgt := 4) dX1_nameDigits_51 (by decide) ?_
          exact pw_lo (lle_s rfl (lle_s rfl (lle_s rfl (lle_s rfl lle_0)))) (ih _ _ _ _ _ hf)
        · refine pw_iinc (v := v2 + (1)) dX1_nameDigits_31 rfl rfl (by decide) rfl ?_
          dsimp only [lset, lset2, clr]
          refine pw_aload_n dX1_nameDigits_34 rfl ?_
          refine q_gR hf rfl (by decide) w9_X1_nameDigits_X1 (by decide +kernel) dX1_nameDigits_35 (fun x4 hf => ?_)
          refine pw_iload_n dX1_nameDigits_38 rfl ?_
          refine pw_iload_n dX1_nameDigits_39 rfl ?_
          refine q_iast hf dX1_nameDigits_40 (fun h5 hf => ?_)
          refine pw_aload_n dX1_nameDigits_41 rfl ?_
          refine q_gR hf rfl (by decide) w9_X1_nameDigits_X1 (by decide +kernel) dX1_nameDigits_42 (fun x6 hf => ?_)
          refine pw_iload_n dX1_nameDigits_45 rfl ?_
          refine pw_iload_n dX1_nameDigits_46 rfl ?_
          refine q_iast hf dX1_nameDigits_47 (fun h7 hf => ?_)
          refine pw_iinc (v := v3 + (1)) dX1_nameDigits_48 rfl rfl (by decide) rfl ?_
          dsimp only [lset, lset2, clr]
          refine pw_goto (tgt := 4) dX1_nameDigits_51 (by decide) ?_
          exact pw_lo (lle_s rfl (lle_s rfl (lle_s rfl (lle_s rfl lle_0)))) (ih _ _ _ _ _ hf)
def f_X1_nameDigits (h : Hp) (a0 : Nat) (a1 : Nat) : Option Hp := f_X1_nameDigits_4 4096 a0 a1 (0 : Int32) (1 : Int32) h
set_option maxHeartbeats 4000000 in
set_option maxRecDepth 100000 in
theorem t_X1_nameDigits {g : GT} {l : Launch} {h : Hp} {a0 : Nat} {a1 : Nat} {r : Hp} (hf : f_X1_nameDigits h a0 a1 = some r) : PM g l 3 0 0 yX1_nameDigits wsX1_nameDigits [.ref a0, .ref a1] h (fun r9 h9 => r9 = none ∧ h9 = r) := by
  refine pm_of (M := m_X1_nameDigits) (by decide) rfl rfl rfl (Nat.le_of_ble_eq_true rfl) (lo := [some (.ref a0), some (.ref a1), none, none]) rfl ?_
  rw [f_X1_nameDigits] at hf
  refine pw_iconst (v := (0)) dX1_nameDigits_0 (by decide) ?_
  refine pw_istore_n dX1_nameDigits_1 (by decide) rfl ?_
  dsimp only [lset, lset2, clr]
  refine pw_iconst (v := (1)) dX1_nameDigits_2 (by decide) ?_
  refine pw_istore_n dX1_nameDigits_3 (by decide) rfl ?_
  dsimp only [lset, lset2, clr]
  exact pw_lo (lle_s rfl (lle_s rfl (lle_s rfl (lle_s rfl lle_0)))) (w_X1_nameDigits_4 4096 _ _ _ _ _ hf)
/-! X1_weighPlaces -/
abbrev m_X1_weighPlaces : MD := (cX1_weighPlaces, RX1, "weighPlaces", wsX1_weighPlaces, 5, none)
theorem w9_X1_weighPlaces_X1 : ∀ w ∈ u_ws RX1 TX1 8, w ∈ wsX1_weighPlaces := by decide +kernel
theorem w9_X1_weighPlaces_X2 : ∀ w ∈ u_ws RX2 TX2 4, w ∈ wsX1_weighPlaces := by decide +kernel
theorem hd9_X1_weighPlaces : yX1_weighPlaces.cls = RX1 ∧ yX1_weighPlaces.cls ≠ "java/lang/invoke/MethodHandle" ∧ yX1_weighPlaces.cls ≠ "java/lang/invoke/VarHandle" ∧ (parseMethodDescriptor yX1_weighPlaces.desc).map (fun d => d.parameters.length) = some 1 := by decide +kernel
def f_X1_weighPlaces_21 : Nat → Nat → Int64 → Int32 → Hp → Option Hp
  | 0, _, _, _, _ => none
  | n + 1, v0, v2, v4, h => if v4 < (1 : Int32) then (some h) else ((gR h v0 1 1).bind fun x1 => (sL h x1 v4 v2).bind fun h2 => f_X1_weighPlaces_21 n v0 (v2 * (10 : Int64)) (v4 + (-1)) h2)
set_option maxHeartbeats 4000000 in
set_option maxRecDepth 100000 in
theorem w_X1_weighPlaces_21 {g : GT} {l : Launch} {r : Hp} : ∀ (n : Nat) (v0 : Nat) (v2 : Int64) (v4 : Int32) (h : Hp), f_X1_weighPlaces_21 n v0 v2 v4 h = some r → PW g l m_X1_weighPlaces 1 0 0 21 [some (.ref v0), none, some (.long v2), none, some (.int v4)] [] h (fun r9 h9 => r9 = none ∧ h9 = r) := by
  intro n
  induction n with
  | zero => intro v0 v2 v4 h hf; cases hf
  | succ n ih =>
    intro v0 v2 v4 h hf
    rw [f_X1_weighPlaces_21] at hf
    refine pw_iload dX1_weighPlaces_21 rfl ?_
    refine pw_iconst (v := (1)) dX1_weighPlaces_23 (by decide) ?_
    refine q_icmp_lt (tgt := 47) hf dX1_weighPlaces_24 (by decide) (fun hf _ => ?_) (fun hf _ => ?_)
    · exact pw_vret rfl dX1_weighPlaces_47 ⟨rfl, Option.some.inj hf⟩
    · refine pw_aload_n dX1_weighPlaces_27 rfl ?_
      refine q_gR hf rfl (by decide) w9_X1_weighPlaces_X1 (by decide +kernel) dX1_weighPlaces_28 (fun x1 hf => ?_)
      refine pw_iload dX1_weighPlaces_31 rfl ?_
      refine pw_lload_n dX1_weighPlaces_33 rfl ?_
      refine q_last hf dX1_weighPlaces_34 (fun h2 hf => ?_)
      refine pw_lload_n dX1_weighPlaces_35 rfl ?_
      refine pw_ldc2 (v := (10)) dX1_weighPlaces_36 (by decide +kernel) ?_
      refine pw_lmul dX1_weighPlaces_39 ?_
      refine pw_lstore_n dX1_weighPlaces_40 (by decide) rfl ?_
      dsimp only [lset, lset2, clr]
      refine pw_iinc (v := v4 + (-1)) dX1_weighPlaces_41 rfl rfl (by decide) rfl ?_
      dsimp only [lset, lset2, clr]
      refine pw_goto (tgt := 21) dX1_weighPlaces_44 (by decide) ?_
      exact pw_lo (lle_s rfl (lle_n (lle_s rfl (lle_n (lle_s rfl lle_0))))) (ih _ _ _ _ hf)
def f_X1_weighPlaces (h : Hp) (a0 : Nat) (a1 : Nat) : Option Hp := (gI h a1 2 0).bind fun x1 => (pV h a0 1 6 (.int (if (18 : Int32) < x1 then (18 : Int32) else x1))).bind fun h2 => (gI h2 a0 1 6).bind fun x3 => f_X1_weighPlaces_21 4096 a0 (1 : Int64) x3 h2
set_option maxHeartbeats 4000000 in
set_option maxRecDepth 100000 in
theorem t_X1_weighPlaces {g : GT} {l : Launch} {h : Hp} {a0 : Nat} {a1 : Nat} {r : Hp} (hf : f_X1_weighPlaces h a0 a1 = some r) : PM g l 1 0 0 yX1_weighPlaces wsX1_weighPlaces [.ref a0, .ref a1] h (fun r9 h9 => r9 = none ∧ h9 = r) := by
  refine pm_of (M := m_X1_weighPlaces) (by decide) rfl rfl rfl (Nat.le_of_ble_eq_true rfl) (lo := [some (.ref a0), some (.ref a1), none, none, none]) rfl ?_
  rw [f_X1_weighPlaces] at hf
  refine pw_aload_n dX1_weighPlaces_0 rfl ?_
  refine pw_aload_n dX1_weighPlaces_1 rfl ?_
  refine q_gIN (host := "TwinRows") hf rfl (by decide) w9_X1_weighPlaces_X2 (by decide +kernel) dX1_weighPlaces_2 (fun x1 hf => ?_)
  refine pw_bipush (v := (18)) dX1_weighPlaces_5 (by decide) ?_
  refine pw_min (by decide +kernel) (by decide +kernel) (by decide +kernel) (by decide +kernel) (by decide) (Nat.le_of_ble_eq_true rfl) dX1_weighPlaces_7 ?_
  refine q_pV (ty := .int) hf tyX1 tyX1_ok nmX1 rfl (by decide) w9_X1_weighPlaces_X1 (by decide +kernel) rfl (by decide +kernel) rfl rfl dX1_weighPlaces_10 (fun h2 hf => ?_)
  refine pw_lconst (v := (1)) dX1_weighPlaces_13 (by decide) ?_
  refine pw_lstore_n dX1_weighPlaces_14 (by decide) rfl ?_
  dsimp only [lset, lset2, clr]
  refine pw_aload_n dX1_weighPlaces_15 rfl ?_
  refine q_gI hf rfl (by decide) w9_X1_weighPlaces_X1 (by decide +kernel) dX1_weighPlaces_16 (fun x3 hf => ?_)
  refine pw_istore dX1_weighPlaces_19 (by decide) rfl ?_
  dsimp only [lset, lset2, clr]
  exact pw_lo (lle_s rfl (lle_n (lle_s rfl (lle_n (lle_s rfl lle_0))))) (w_X1_weighPlaces_21 4096 _ _ _ _ hf)
/-! X1_keep -/
abbrev m_X1_keep : MD := (cX1_keep, RX1, "keep", wsX1_keep, 1, none)
theorem w9_X1_keep_X1 : ∀ w ∈ u_ws RX1 TX1 8, w ∈ wsX1_keep := by decide +kernel
theorem hd9_X1_keep : yX1_keep.cls = RX1 ∧ yX1_keep.cls ≠ "java/lang/invoke/MethodHandle" ∧ yX1_keep.cls ≠ "java/lang/invoke/VarHandle" ∧ (parseMethodDescriptor yX1_keep.desc).map (fun d => d.parameters.length) = some 0 := by decide +kernel
def f_X1_keep (h : Hp) (a0 : Nat) : Option Hp := (gI h a0 1 7).bind fun x1 => (gR h a0 1 0).bind fun x2 => (aN h x2).bind fun x3 => if x3 ≤ x1 then ((gI h a0 1 7).bind fun x4 => (pV h a0 1 7 (.int (x4 + (1 : Int32)))).bind fun h5 => some h5) else ((gR h a0 1 0).bind fun x6 => (gI h a0 1 7).bind fun x7 => (sL h x6 x7 (0 : Int64)).bind fun h8 => (gI h8 a0 1 7).bind fun x9 => (pV h8 a0 1 7 (.int (x9 + (1 : Int32)))).bind fun h10 => some h10)
set_option maxHeartbeats 4000000 in
set_option maxRecDepth 100000 in
theorem t_X1_keep {g : GT} {l : Launch} {h : Hp} {a0 : Nat} {r : Hp} (hf : f_X1_keep h a0 = some r) : PM g l 1 0 0 yX1_keep wsX1_keep [.ref a0] h (fun r9 h9 => r9 = none ∧ h9 = r) := by
  refine pm_of (M := m_X1_keep) (by decide) rfl rfl rfl (Nat.le_of_ble_eq_true rfl) (lo := [some (.ref a0)]) rfl ?_
  rw [f_X1_keep] at hf
  refine pw_aload_n dX1_keep_0 rfl ?_
  refine q_gI hf rfl (by decide) w9_X1_keep_X1 (by decide +kernel) dX1_keep_1 (fun x1 hf => ?_)
  refine pw_aload_n dX1_keep_4 rfl ?_
  refine q_gR hf rfl (by decide) w9_X1_keep_X1 (by decide +kernel) dX1_keep_5 (fun x2 hf => ?_)
  refine q_alen hf dX1_keep_8 (fun x3 hf => ?_)
  refine q_icmp_ge (tgt := 22) hf dX1_keep_9 (by decide) (fun hf _ => ?_) (fun hf _ => ?_)
  · refine pw_aload_n dX1_keep_22 rfl ?_
    refine pw_dup dX1_keep_23 rfl ?_
    refine q_gI hf rfl (by decide) w9_X1_keep_X1 (by decide +kernel) dX1_keep_24 (fun x4 hf => ?_)
    refine pw_iconst (v := (1)) dX1_keep_27 (by decide) ?_
    refine pw_iadd dX1_keep_28 ?_
    refine q_pV (ty := .int) hf tyX1 tyX1_ok nmX1 rfl (by decide) w9_X1_keep_X1 (by decide +kernel) rfl (by decide +kernel) rfl rfl dX1_keep_29 (fun h5 hf => ?_)
    exact pw_vret rfl dX1_keep_32 ⟨rfl, Option.some.inj hf⟩
  · refine pw_aload_n dX1_keep_12 rfl ?_
    refine q_gR hf rfl (by decide) w9_X1_keep_X1 (by decide +kernel) dX1_keep_13 (fun x6 hf => ?_)
    refine pw_aload_n dX1_keep_16 rfl ?_
    refine q_gI hf rfl (by decide) w9_X1_keep_X1 (by decide +kernel) dX1_keep_17 (fun x7 hf => ?_)
    refine pw_lconst (v := (0)) dX1_keep_20 (by decide) ?_
    refine q_last hf dX1_keep_21 (fun h8 hf => ?_)
    refine pw_aload_n dX1_keep_22 rfl ?_
    refine pw_dup dX1_keep_23 rfl ?_
    refine q_gI hf rfl (by decide) w9_X1_keep_X1 (by decide +kernel) dX1_keep_24 (fun x9 hf => ?_)
    refine pw_iconst (v := (1)) dX1_keep_27 (by decide) ?_
    refine pw_iadd dX1_keep_28 ?_
    refine q_pV (ty := .int) hf tyX1 tyX1_ok nmX1 rfl (by decide) w9_X1_keep_X1 (by decide +kernel) rfl (by decide +kernel) rfl rfl dX1_keep_29 (fun h10 hf => ?_)
    exact pw_vret rfl dX1_keep_32 ⟨rfl, Option.some.inj hf⟩
/-! X1_stand -/
abbrev m_X1_stand : MD := (cX1_stand, RX1, "stand", wsX1_stand, 7, none)
theorem w9_X1_stand_X1 : ∀ w ∈ u_ws RX1 TX1 8, w ∈ wsX1_stand := by decide +kernel
theorem hd9_X1_stand : yX1_stand.cls = RX1 ∧ yX1_stand.cls ≠ "java/lang/invoke/MethodHandle" ∧ yX1_stand.cls ≠ "java/lang/invoke/VarHandle" ∧ (parseMethodDescriptor yX1_stand.desc).map (fun d => d.parameters.length) = some 3 := by decide +kernel
def f_X1_stand_72 : Nat → Nat → Int64 → Int32 → Hp → Option Hp
  | 0, _, _, _, _ => none
  | n + 1, v0, v4, v6, h => (gI h v0 1 7).bind fun x1 => if x1 ≤ v6 then (some h) else ((gR h v0 1 0).bind fun x2 => (aN h x2).bind fun x3 => if x3 ≤ v6 then (some h) else ((gR h v0 1 0).bind fun x4 => (aL h x4 v6).bind fun x5 => (sL h x4 v6 (x5 + v4)).bind fun h6 => f_X1_stand_72 n v0 v4 (v6 + (1)) h6))
set_option maxHeartbeats 4000000 in
set_option maxRecDepth 100000 in
theorem w_X1_stand_72 {g : GT} {l : Launch} {r : Hp} : ∀ (n : Nat) (v0 : Nat) (v4 : Int64) (v6 : Int32) (h : Hp), f_X1_stand_72 n v0 v4 v6 h = some r → PW g l m_X1_stand 1 0 0 72 [some (.ref v0), none, none, none, some (.long v4), none, some (.int v6)] [] h (fun r9 h9 => r9 = none ∧ h9 = r) := by
  intro n
  induction n with
  | zero => intro v0 v4 v6 h hf; cases hf
  | succ n ih =>
    intro v0 v4 v6 h hf
    rw [f_X1_stand_72] at hf
    refine pw_iload dX1_stand_72 rfl ?_
    refine pw_aload_n dX1_stand_74 rfl ?_
    refine q_gI hf rfl (by decide) w9_X1_stand_X1 (by decide +kernel) dX1_stand_75 (fun x1 hf => ?_)
    refine q_icmp_ge (tgt := 109) hf dX1_stand_78 (by decide) (fun hf _ => ?_) (fun hf _ => ?_)
    · exact pw_vret rfl dX1_stand_109 ⟨rfl, Option.some.inj hf⟩
    · refine pw_iload dX1_stand_81 rfl ?_
      refine pw_aload_n dX1_stand_83 rfl ?_
      refine q_gR hf rfl (by decide) w9_X1_stand_X1 (by decide +kernel) dX1_stand_84 (fun x2 hf => ?_)
      refine q_alen hf dX1_stand_87 (fun x3 hf => ?_)
      refine q_icmp_ge (tgt := 109) hf dX1_stand_88 (by decide) (fun hf _ => ?_) (fun hf _ => ?_)
      · exact pw_vret rfl dX1_stand_109 ⟨rfl, Option.some.inj hf⟩
      · refine pw_aload_n dX1_stand_91 rfl ?_
        refine q_gR hf rfl (by decide) w9_X1_stand_X1 (by decide +kernel) dX1_stand_92 (fun x4 hf => ?_)
        refine pw_iload dX1_stand_95 rfl ?_
        refine pw_dup2 dX1_stand_97 ⟨rfl, rfl⟩ ?_
        refine q_lald hf dX1_stand_98 (fun x5 hf => ?_)
        refine pw_lload dX1_stand_99 rfl ?_
        refine pw_ladd dX1_stand_101 ?_
        refine q_last hf dX1_stand_102 (fun h6 hf => ?_)
        refine pw_iinc (v := v6 + (1)) dX1_stand_103 rfl rfl (by decide) rfl ?_
        dsimp only [lset, lset2, clr]
        refine pw_goto (tgt := 72) dX1_stand_106 (by decide) ?_
        exact pw_lo (lle_s rfl (lle_n (lle_n (lle_n (lle_s rfl (lle_n (lle_s rfl lle_0))))))) (ih _ _ _ _ hf)
def f_X1_stand (h : Hp) (a0 : Nat) (a1 : Int32) (a2 : Int32) (a3 : Int32) : Option Hp := if a1 < (1 : Int32) then (some h) else (if (15 : Int32) < a1 then (some h) else (if a2 < (1 : Int32) then (some h) else ((gI h a0 1 6).bind fun x1 => if (a2 + a1) ≤ x1 then ((gR h a0 1 4).bind fun x2 => (aR h 5 x2 a1).bind fun x3 => (aI h 0 x3 a2).bind fun x4 => (gI h a0 1 7).bind fun x5 => (sI h 0 x3 a2 (x4 + (x5 - a3))).bind fun h6 => (gR h6 a0 1 2).bind fun x7 => (aI h6 0 x7 a1).bind fun x8 => (gR h6 a0 1 1).bind fun x9 => (aL h6 x9 a2).bind fun x10 => (gR h6 a0 1 1).bind fun x11 => (aL h6 x11 (a2 + a1)).bind fun x12 => f_X1_stand_72 4096 a0 (x8.toInt64 * (x10 + x12)) a3 h6) else (some h))))
set_option maxHeartbeats 4000000 in
set_option maxRecDepth 100000 in
theorem t_X1_stand {g : GT} {l : Launch} {h : Hp} {a0 : Nat} {a1 : Int32} {a2 : Int32} {a3 : Int32} {r : Hp} (hf : f_X1_stand h a0 a1 a2 a3 = some r) : PM g l 1 0 0 yX1_stand wsX1_stand [.ref a0, .int a1, .int a2, .int a3] h (fun r9 h9 => r9 = none ∧ h9 = r) := by
  refine pm_of (M := m_X1_stand) (by decide) rfl rfl rfl (Nat.le_of_ble_eq_true rfl) (lo := [some (.ref a0), some (.int a1), some (.int a2), some (.int a3), none, none, none]) rfl ?_
  rw [f_X1_stand] at hf
  refine pw_iload_n dX1_stand_0 rfl ?_
  refine pw_iconst (v := (1)) dX1_stand_1 (by decide) ?_
  refine q_icmp_lt (tgt := 26) hf dX1_stand_2 (by decide) (fun hf _ => ?_) (fun hf _ => ?_)
  · exact pw_vret rfl dX1_stand_26 ⟨rfl, Option.some.inj hf⟩
  · refine pw_iload_n dX1_stand_5 rfl ?_
    refine pw_bipush (v := (15)) dX1_stand_6 (by decide) ?_
    refine q_icmp_gt (tgt := 26) hf dX1_stand_8 (by decide) (fun hf _ => ?_) (fun hf _ => ?_)
    · exact pw_vret rfl dX1_stand_26 ⟨rfl, Option.some.inj hf⟩
    · refine pw_iload_n dX1_stand_11 rfl ?_
      refine pw_iconst (v := (1)) dX1_stand_12 (by decide) ?_
      refine q_icmp_lt (tgt := 26) hf dX1_stand_13 (by decide) (fun hf _ => ?_) (fun hf _ => ?_)
      · exact pw_vret rfl dX1_stand_26 ⟨rfl, Option.some.inj hf⟩
      · refine pw_iload_n dX1_stand_16 rfl ?_
        refine pw_iload_n dX1_stand_17 rfl ?_
        refine pw_iadd dX1_stand_18 ?_
        refine pw_aload_n dX1_stand_19 rfl ?_
        refine q_gI hf rfl (by decide) w9_X1_stand_X1 (by decide +kernel) dX1_stand_20 (fun x1 hf => ?_)
        refine q_icmp_le (tgt := 27) hf dX1_stand_23 (by decide) (fun hf _ => ?_) (fun hf _ => ?_)
        · refine pw_aload_n dX1_stand_27 rfl ?_
          refine q_gR hf rfl (by decide) w9_X1_stand_X1 (by decide +kernel) dX1_stand_28 (fun x2 hf => ?_)
          refine pw_iload_n dX1_stand_31 rfl ?_
          refine q_aald hf (by decide) rfl dX1_stand_32 (fun x3 hf => ?_)
          refine pw_iload_n dX1_stand_33 rfl ?_
          refine pw_dup2 dX1_stand_34 ⟨rfl, rfl⟩ ?_
          refine q_iald hf dX1_stand_35 (fun x4 hf => ?_)
          refine pw_aload_n dX1_stand_36 rfl ?_
          refine q_gI hf rfl (by decide) w9_X1_stand_X1 (by decide +kernel) dX1_stand_37 (fun x5 hf => ?_)
          refine pw_iload_n dX1_stand_40 rfl ?_
          refine pw_isub dX1_stand_41 ?_
          refine pw_iadd dX1_stand_42 ?_
          refine q_iast hf dX1_stand_43 (fun h6 hf => ?_)
          refine pw_aload_n dX1_stand_44 rfl ?_
          refine q_gR hf rfl (by decide) w9_X1_stand_X1 (by decide +kernel) dX1_stand_45 (fun x7 hf => ?_)
          refine pw_iload_n dX1_stand_48 rfl ?_
          refine q_iald hf dX1_stand_49 (fun x8 hf => ?_)
          refine pw_i2l dX1_stand_50 ?_
          refine pw_aload_n dX1_stand_51 rfl ?_
          refine q_gR hf rfl (by decide) w9_X1_stand_X1 (by decide +kernel) dX1_stand_52 (fun x9 hf => ?_)
          refine pw_iload_n dX1_stand_55 rfl ?_
          refine q_lald hf dX1_stand_56 (fun x10 hf => ?_)
          refine pw_aload_n dX1_stand_57 rfl ?_
          refine q_gR hf rfl (by decide) w9_X1_stand_X1 (by decide +kernel) dX1_stand_58 (fun x11 hf => ?_)
          refine pw_iload_n dX1_stand_61 rfl ?_
          refine pw_iload_n dX1_stand_62 rfl ?_
          refine pw_iadd dX1_stand_63 ?_
          refine q_lald hf dX1_stand_64 (fun x12 hf => ?_)
          refine pw_ladd dX1_stand_65 ?_
          refine pw_lmul dX1_stand_66 ?_
          refine pw_lstore dX1_stand_67 (by decide) rfl ?_
          dsimp only [lset, lset2, clr]
          refine pw_iload_n dX1_stand_69 rfl ?_
          refine pw_istore dX1_stand_70 (by decide) rfl ?_
          dsimp only [lset, lset2, clr]
          exact pw_lo (lle_s rfl (lle_n (lle_n (lle_n (lle_s rfl (lle_n (lle_s rfl lle_0))))))) (w_X1_stand_72 4096 _ _ _ _ hf)
        · exact pw_vret rfl dX1_stand_26 ⟨rfl, Option.some.inj hf⟩
/-! X1_fill -/
abbrev m_X1_fill : MD := (cX1_fill, RX1, "fill", wsX1_fill, 10, none)
theorem w9_X1_fill_X1 : ∀ w ∈ u_ws RX1 TX1 8, w ∈ wsX1_fill := by decide +kernel
theorem hd9_X1_fill : yX1_fill.cls = RX1 ∧ yX1_fill.cls ≠ "java/lang/invoke/MethodHandle" ∧ yX1_fill.cls ≠ "java/lang/invoke/VarHandle" ∧ (parseMethodDescriptor yX1_fill.desc).map (fun d => d.parameters.length) = some 3 := by decide +kernel
def f_X1_fill_78 (rec : Hp → Nat → Int32 → Int32 → Int32 → Option Hp) : Nat → Nat → Int32 → Int32 → Int32 → Int32 → Int32 → Hp → Option Hp
  | 0, _, _, _, _, _, _, _ => none
  | n + 1, v0, v3, v4, v5, v6, v7, h => if (9 : Int32) ≤ v7 then (some h) else (if v6 = 0 then (some h) else ((gI h v0 1 7).bind fun x1 => if oK h v0 1 = true then (rec h v0 (v4 + (1 : Int32)) (v5 &&& (((v6 &&& (-v6)) <<< (v4 &&& 31)) ^^^ (-1 : Int32))) (v3 &&& ((v6 &&& (-v6)) ^^^ (-1 : Int32)))).bind fun h2 => (gI h2 v0 1 7).bind fun x3 => if x3 ≤ x1 then (f_X1_fill_78 rec n v0 v3 v4 v5 (v6 &&& ((v6 &&& (-v6)) ^^^ (-1 : Int32))) (v7 + (1)) h2) else ((f_J6_bitCount_0f7a4 h2 ((v6 &&& (-v6)) - (1 : Int32))).bind fun x4 => if oK h2 v0 1 = true then (f_X1_stand h2 v0 (x4 + (1 : Int32)) v4 x1).bind fun h5 => f_X1_fill_78 rec n v0 v3 v4 v5 (v6 &&& ((v6 &&& (-v6)) ^^^ (-1 : Int32))) (v7 + (1)) h5 else none) else none))
set_option maxHeartbeats 4000000 in
set_option maxRecDepth 100000 in
theorem w_X1_fill_78 {g : GT} {l : Launch} {n9 : Nat} {rec} {r : Hp} (hrec : ∀ h a0 a1 a2 a3 r, rec h a0 a1 a2 a3 = some r → PM g l (2 * n9) 0 0 yX1_fill wsX1_fill [.ref a0, .int a1, .int a2, .int a3] h (fun r9 h9 => r9 = none ∧ h9 = r)) : ∀ (n : Nat) (v0 : Nat) (v3 : Int32) (v4 : Int32) (v5 : Int32) (v6 : Int32) (v7 : Int32) (h : Hp), f_X1_fill_78 rec n v0 v3 v4 v5 v6 v7 h = some r → PW g l m_X1_fill (2 * n9 + 2) 0 0 78 [some (.ref v0), none, none, some (.int v3), some (.int v4), some (.int v5), some (.int v6), some (.int v7), none, none] [] h (fun r9 h9 => r9 = none ∧ h9 = r) := by
  intro n
  induction n with
  | zero => intro v0 v3 v4 v5 v6 v7 h hf; cases hf
  | succ n ih =>
    intro v0 v3 v4 v5 v6 v7 h hf
    rw [f_X1_fill_78] at hf
    refine pw_iload dX1_fill_78 rfl ?_
    refine pw_bipush (v := (9)) dX1_fill_80 (by decide) ?_
    refine q_icmp_ge (tgt := 169) hf dX1_fill_82 (by decide) (fun hf _ => ?_) (fun hf _ => ?_)
    · exact pw_vret rfl dX1_fill_169 ⟨rfl, Option.some.inj hf⟩
    · refine pw_iload dX1_fill_85 rfl ?_
      refine q_if_eq (tgt := 169) hf dX1_fill_87 (by decide) (fun hf _ => ?_) (fun hf _ => ?_)
      · exact pw_vret rfl dX1_fill_169 ⟨rfl, Option.some.inj hf⟩
      · refine pw_iload dX1_fill_90 rfl ?_
        refine pw_iload dX1_fill_92 rfl ?_
        refine pw_ineg dX1_fill_94 ?_
        refine pw_iand dX1_fill_95 ?_
        refine pw_istore dX1_fill_96 (by decide) rfl ?_
        dsimp only [lset, lset2, clr]
        refine pw_aload_n dX1_fill_98 rfl ?_
        refine q_gI hf rfl (by decide) w9_X1_fill_X1 (by decide +kernel) dX1_fill_99 (fun x1 hf => ?_)
        refine pw_istore dX1_fill_102 (by decide) rfl ?_
        dsimp only [lset, lset2, clr]
        refine pw_aload_n dX1_fill_104 rfl ?_
        refine pw_iload dX1_fill_105 rfl ?_
        refine pw_iconst (v := (1)) dX1_fill_107 (by decide) ?_
        refine pw_iadd dX1_fill_108 ?_
        refine pw_iload dX1_fill_109 rfl ?_
        refine pw_iload dX1_fill_111 rfl ?_
        refine pw_iload dX1_fill_113 rfl ?_
        refine pw_ishl dX1_fill_115 ?_
        refine pw_iconst (v := (-1)) dX1_fill_116 (by decide) ?_
        refine pw_ixor dX1_fill_117 ?_
        refine pw_iand dX1_fill_118 ?_
        refine pw_iload_n dX1_fill_119 rfl ?_
        refine pw_iload dX1_fill_120 rfl ?_
        refine pw_iconst (v := (-1)) dX1_fill_122 (by decide) ?_
        refine pw_ixor dX1_fill_123 ?_
        refine pw_iand dX1_fill_124 ?_
        refine q_callV_v (kc2 := 0) (ks2 := 0) (as := [.int (v4 + (1 : Int32)), .int (v5 &&& (((v6 &&& (-v6)) <<< (v4 &&& 31)) ^^^ (-1 : Int32))), .int (v3 &&& ((v6 &&& (-v6)) ^^^ (-1 : Int32)))]) (rest := []) hf (fun x9 e9 => hrec _ _ _ _ _ x9 e9) gX1_fill_X1_fill rfl hd9_X1_fill rfl rfl ⟨(by omega), by decide⟩ ⟨rfl, rfl⟩ (Nat.le_of_ble_eq_true rfl) dX1_fill_125 rfl (fun h2 hf => ?_)
        refine pw_aload_n dX1_fill_128 rfl ?_
        refine q_gI hf rfl (by decide) w9_X1_fill_X1 (by decide +kernel) dX1_fill_129 (fun x3 hf => ?_)
        refine pw_iload dX1_fill_132 rfl ?_
        refine q_icmp_le (tgt := 154) hf dX1_fill_134 (by decide) (fun hf _ => ?_) (fun hf _ => ?_)
        · refine pw_iload dX1_fill_154 rfl ?_
          refine pw_iload dX1_fill_156 rfl ?_
          refine pw_iconst (v := (-1)) dX1_fill_158 (by decide) ?_
          refine pw_ixor dX1_fill_159 ?_
          refine pw_iand dX1_fill_160 ?_
          refine pw_istore dX1_fill_161 (by decide) rfl ?_
          dsimp only [lset, lset2, clr]
          refine pw_iinc (v := v7 + (1)) dX1_fill_163 rfl rfl (by decide) rfl ?_
          dsimp only [lset, lset2, clr]
          refine pw_goto (tgt := 78) dX1_fill_166 (by decide) ?_
          exact pw_lo (lle_s rfl (lle_n (lle_n (lle_s rfl (lle_s rfl (lle_s rfl (lle_s rfl (lle_s rfl (lle_n (lle_n lle_0)))))))))) (ih _ _ _ _ _ _ _ hf)
        · refine pw_aload_n dX1_fill_137 rfl ?_
          refine pw_iload dX1_fill_138 rfl ?_
          refine pw_iconst (v := (1)) dX1_fill_140 (by decide) ?_
          refine pw_isub dX1_fill_141 ?_
          refine q_callS_i (kc2 := 0) (ks2 := 0) (as := [.int ((v6 &&& (-v6)) - (1 : Int32))]) (rest := [.ref v0]) hf (fun x9 e9 => t_J6_bitCount_0f7a4 e9) gX1_fill_J6_bitCount_0f7a4 rfl hd9_J6_bitCount_0f7a4 rfl ⟨(by omega), by decide⟩ ⟨rfl, rfl⟩ (Nat.le_of_ble_eq_true rfl) dX1_fill_142 rfl (fun x4 hf => ?_)
          refine pw_iconst (v := (1)) dX1_fill_145 (by decide) ?_
          refine pw_iadd dX1_fill_146 ?_
          refine pw_iload dX1_fill_147 rfl ?_
          refine pw_iload dX1_fill_149 rfl ?_
          refine q_callV_v (kc2 := 0) (ks2 := 0) (as := [.int (x4 + (1 : Int32)), .int v4, .int x1]) (rest := []) hf (fun x9 e9 => t_X1_stand e9) gX1_fill_X1_stand rfl hd9_X1_stand rfl rfl ⟨(by omega), by decide⟩ ⟨rfl, rfl⟩ (Nat.le_of_ble_eq_true rfl) dX1_fill_151 rfl (fun h5 hf => ?_)
          refine pw_iload dX1_fill_154 rfl ?_
          refine pw_iload dX1_fill_156 rfl ?_
          refine pw_iconst (v := (-1)) dX1_fill_158 (by decide) ?_
          refine pw_ixor dX1_fill_159 ?_
          refine pw_iand dX1_fill_160 ?_
          refine pw_istore dX1_fill_161 (by decide) rfl ?_
          dsimp only [lset, lset2, clr]
          refine pw_iinc (v := v7 + (1)) dX1_fill_163 rfl rfl (by decide) rfl ?_
          dsimp only [lset, lset2, clr]
          refine pw_goto (tgt := 78) dX1_fill_166 (by decide) ?_
          exact pw_lo (lle_s rfl (lle_n (lle_n (lle_s rfl (lle_s rfl (lle_s rfl (lle_s rfl (lle_s rfl (lle_n (lle_n lle_0)))))))))) (ih _ _ _ _ _ _ _ hf)
def f_X1_fill_3 (rec : Hp → Nat → Int32 → Int32 → Int32 → Option Hp) : Nat → Nat → Int32 → Int32 → Int32 → Hp → Option Hp
  | 0, _, _, _, _, _ => none
  | n + 1, v0, v2, v3, v4, h => (gI h v0 1 6).bind fun x1 => if x1 < v4 then ((gI h v0 1 6).bind fun x2 => if v4 ≤ x2 then ((gI h v0 1 6).bind fun x3 => if (ushr v3 (x3 - v4)) = 0 then ((f_X6_bit h v4).bind fun x4 => f_X1_fill_78 rec 4096 v0 v3 v4 (v2 &&& (x4 ^^^ (-1 : Int32))) (v3 &&& (ushr (v2 &&& (x4 ^^^ (-1 : Int32))) v4)) (0 : Int32) h) else (some h)) else (if oK h v0 1 = true then (f_X1_keep h v0).bind fun h5 => some h5 else none)) else ((f_X6_bit h v4).bind fun x6 => if (v2 &&& x6) = 0 then (f_X1_fill_3 rec n v0 v2 v3 (v4 + (1)) h) else ((gI h v0 1 6).bind fun x7 => if v4 ≤ x7 then ((gI h v0 1 6).bind fun x8 => if (ushr v3 (x8 - v4)) = 0 then ((f_X6_bit h v4).bind fun x9 => f_X1_fill_78 rec 4096 v0 v3 v4 (v2 &&& (x9 ^^^ (-1 : Int32))) (v3 &&& (ushr (v2 &&& (x9 ^^^ (-1 : Int32))) v4)) (0 : Int32) h) else (some h)) else (if oK h v0 1 = true then (f_X1_keep h v0).bind fun h10 => some h10 else none)))
set_option maxHeartbeats 4000000 in
set_option maxRecDepth 100000 in
theorem w_X1_fill_3 {g : GT} {l : Launch} {n9 : Nat} {rec} {r : Hp} (hrec : ∀ h a0 a1 a2 a3 r, rec h a0 a1 a2 a3 = some r → PM g l (2 * n9) 0 0 yX1_fill wsX1_fill [.ref a0, .int a1, .int a2, .int a3] h (fun r9 h9 => r9 = none ∧ h9 = r)) : ∀ (n : Nat) (v0 : Nat) (v2 : Int32) (v3 : Int32) (v4 : Int32) (h : Hp), f_X1_fill_3 rec n v0 v2 v3 v4 h = some r → PW g l m_X1_fill (2 * n9 + 2) 0 0 3 [some (.ref v0), none, some (.int v2), some (.int v3), some (.int v4), none, none, none, none, none] [] h (fun r9 h9 => r9 = none ∧ h9 = r) := by
  intro n
  induction n with
  | zero => intro v0 v2 v3 v4 h hf; cases hf
  | succ n ih =>
    intro v0 v2 v3 v4 h hf
    rw [f_X1_fill_3] at hf
    refine pw_iload dX1_fill_3 rfl ?_
    refine pw_aload_n dX1_fill_5 rfl ?_
    refine q_gI hf rfl (by decide) w9_X1_fill_X1 (by decide +kernel) dX1_fill_6 (fun x1 hf => ?_)
    refine q_icmp_gt (tgt := 28) hf dX1_fill_9 (by decide) (fun hf _ => ?_) (fun hf _ => ?_)
    · refine pw_iload dX1_fill_28 rfl ?_
      refine pw_aload_n dX1_fill_30 rfl ?_
      refine q_gI hf rfl (by decide) w9_X1_fill_X1 (by decide +kernel) dX1_fill_31 (fun x2 hf => ?_)
      refine q_icmp_le (tgt := 42) hf dX1_fill_34 (by decide) (fun hf _ => ?_) (fun hf _ => ?_)
      · refine pw_iload_n dX1_fill_42 rfl ?_
        refine pw_aload_n dX1_fill_43 rfl ?_
        refine q_gI hf rfl (by decide) w9_X1_fill_X1 (by decide +kernel) dX1_fill_44 (fun x3 hf => ?_)
        refine pw_iload dX1_fill_47 rfl ?_
        refine pw_isub dX1_fill_49 ?_
        refine pw_iushr dX1_fill_50 ?_
        refine q_if_eq (tgt := 55) hf dX1_fill_51 (by decide) (fun hf _ => ?_) (fun hf _ => ?_)
        · refine pw_iload_n dX1_fill_55 rfl ?_
          refine pw_iload dX1_fill_56 rfl ?_
          refine q_callSN_i (host := "TwinRows") (kc2 := 0) (ks2 := 0) (as := [.int v4]) (rest := [.int v2]) hf (fun x9 e9 => t_X6_bit e9) gX1_fill_X6_bit_n99 (by decide +kernel) (by decide +kernel) (by decide +kernel) rfl hd9_X6_bit rfl ⟨(by omega), by decide⟩ ⟨rfl, rfl⟩ (Nat.le_of_ble_eq_true rfl) dX1_fill_58 rfl (fun x4 hf => ?_)
          refine pw_iconst (v := (-1)) dX1_fill_61 (by decide) ?_
          refine pw_ixor dX1_fill_62 ?_
          refine pw_iand dX1_fill_63 ?_
          refine pw_istore dX1_fill_64 (by decide) rfl ?_
          dsimp only [lset, lset2, clr]
          refine pw_iload_n dX1_fill_66 rfl ?_
          refine pw_iload dX1_fill_67 rfl ?_
          refine pw_iload dX1_fill_69 rfl ?_
          refine pw_iushr dX1_fill_71 ?_
          refine pw_iand dX1_fill_72 ?_
          refine pw_istore dX1_fill_73 (by decide) rfl ?_
          dsimp only [lset, lset2, clr]
          refine pw_iconst (v := (0)) dX1_fill_75 (by decide) ?_
          refine pw_istore dX1_fill_76 (by decide) rfl ?_
          dsimp only [lset, lset2, clr]
          exact pw_lo (lle_s rfl (lle_n (lle_n (lle_s rfl (lle_s rfl (lle_s rfl (lle_s rfl (lle_s rfl (lle_n (lle_n lle_0)))))))))) (w_X1_fill_78 hrec 4096 _ _ _ _ _ _ _ hf)
        · exact pw_vret rfl dX1_fill_54 ⟨rfl, Option.some.inj hf⟩
      · refine pw_aload_n dX1_fill_37 rfl ?_
        refine q_callV_v (kc2 := 0) (ks2 := 0) (as := []) (rest := []) hf (fun x9 e9 => t_X1_keep e9) gX1_fill_X1_keep rfl hd9_X1_keep rfl rfl ⟨(by omega), by decide⟩ ⟨rfl, rfl⟩ (Nat.le_of_ble_eq_true rfl) dX1_fill_38 rfl (fun h5 hf => ?_)
        exact pw_vret rfl dX1_fill_41 ⟨rfl, Option.some.inj hf⟩
    · refine pw_iload_n dX1_fill_12 rfl ?_
      refine pw_iload dX1_fill_13 rfl ?_
      refine q_callSN_i (host := "TwinRows") (kc2 := 0) (ks2 := 0) (as := [.int v4]) (rest := [.int v2]) hf (fun x9 e9 => t_X6_bit e9) gX1_fill_X6_bit_n99 (by decide +kernel) (by decide +kernel) (by decide +kernel) rfl hd9_X6_bit rfl ⟨(by omega), by decide⟩ ⟨rfl, rfl⟩ (Nat.le_of_ble_eq_true rfl) dX1_fill_15 rfl (fun x6 hf => ?_)
      refine pw_iand dX1_fill_18 ?_
      refine q_if_ne (tgt := 28) hf dX1_fill_19 (by decide) (fun hf _ => ?_) (fun hf _ => ?_)
      · refine pw_iload dX1_fill_28 rfl ?_
        refine pw_aload_n dX1_fill_30 rfl ?_
        refine q_gI hf rfl (by decide) w9_X1_fill_X1 (by decide +kernel) dX1_fill_31 (fun x7 hf => ?_)
        refine q_icmp_le (tgt := 42) hf dX1_fill_34 (by decide) (fun hf _ => ?_) (fun hf _ => ?_)
        · refine pw_iload_n dX1_fill_42 rfl ?_
          refine pw_aload_n dX1_fill_43 rfl ?_
          refine q_gI hf rfl (by decide) w9_X1_fill_X1 (by decide +kernel) dX1_fill_44 (fun x8 hf => ?_)
          refine pw_iload dX1_fill_47 rfl ?_
          refine pw_isub dX1_fill_49 ?_
          refine pw_iushr dX1_fill_50 ?_
          refine q_if_eq (tgt := 55) hf dX1_fill_51 (by decide) (fun hf _ => ?_) (fun hf _ => ?_)
          · refine pw_iload_n dX1_fill_55 rfl ?_
            refine pw_iload dX1_fill_56 rfl ?_
            refine q_callSN_i (host := "TwinRows") (kc2 := 0) (ks2 := 0) (as := [.int v4]) (rest := [.int v2]) hf (fun x9 e9 => t_X6_bit e9) gX1_fill_X6_bit_n99 (by decide +kernel) (by decide +kernel) (by decide +kernel) rfl hd9_X6_bit rfl ⟨(by omega), by decide⟩ ⟨rfl, rfl⟩ (Nat.le_of_ble_eq_true rfl) dX1_fill_58 rfl (fun x9 hf => ?_)
            refine pw_iconst (v := (-1)) dX1_fill_61 (by decide) ?_
            refine pw_ixor dX1_fill_62 ?_
            refine pw_iand dX1_fill_63 ?_
            refine pw_istore dX1_fill_64 (by decide) rfl ?_
            dsimp only [lset, lset2, clr]
            refine pw_iload_n dX1_fill_66 rfl ?_
            refine pw_iload dX1_fill_67 rfl ?_
            refine pw_iload dX1_fill_69 rfl ?_
            refine pw_iushr dX1_fill_71 ?_
            refine pw_iand dX1_fill_72 ?_
            refine pw_istore dX1_fill_73 (by decide) rfl ?_
            dsimp only [lset, lset2, clr]
            refine pw_iconst (v := (0)) dX1_fill_75 (by decide) ?_
            refine pw_istore dX1_fill_76 (by decide) rfl ?_
            dsimp only [lset, lset2, clr]
            exact pw_lo (lle_s rfl (lle_n (lle_n (lle_s rfl (lle_s rfl (lle_s rfl (lle_s rfl (lle_s rfl (lle_n (lle_n lle_0)))))))))) (w_X1_fill_78 hrec 4096 _ _ _ _ _ _ _ hf)
          · exact pw_vret rfl dX1_fill_54 ⟨rfl, Option.some.inj hf⟩
        · refine pw_aload_n dX1_fill_37 rfl ?_
          refine q_callV_v (kc2 := 0) (ks2 := 0) (as := []) (rest := []) hf (fun x9 e9 => t_X1_keep e9) gX1_fill_X1_keep rfl hd9_X1_keep rfl rfl ⟨(by omega), by decide⟩ ⟨rfl, rfl⟩ (Nat.le_of_ble_eq_true rfl) dX1_fill_38 rfl (fun h10 hf => ?_)
          exact pw_vret rfl dX1_fill_41 ⟨rfl, Option.some.inj hf⟩
      · refine pw_iinc (v := v4 + (1)) dX1_fill_22 rfl rfl (by decide) rfl ?_
        dsimp only [lset, lset2, clr]
        refine pw_goto (tgt := 3) dX1_fill_25 (by decide) ?_
        exact pw_lo (lle_s rfl (lle_n (lle_s rfl (lle_s rfl (lle_s rfl (lle_n (lle_n (lle_n (lle_n (lle_n lle_0)))))))))) (ih _ _ _ _ _ hf)
def f_X1_fill : Nat → Hp → Nat → Int32 → Int32 → Int32 → Option Hp
  | 0, _, _, _, _, _ => none
  | n9 + 1, h, a0, a1, a2, a3 => f_X1_fill_3 (f_X1_fill n9) 4096 a0 a2 a3 a1 h
set_option maxHeartbeats 4000000 in
set_option maxRecDepth 100000 in
theorem t_X1_fill {g : GT} {l : Launch} : ∀ (n9 : Nat) {h : Hp} {a0 : Nat} {a1 : Int32} {a2 : Int32} {a3 : Int32} {r : Hp}, f_X1_fill n9 h a0 a1 a2 a3 = some r → PM g l (2 * n9) 0 0 yX1_fill wsX1_fill [.ref a0, .int a1, .int a2, .int a3] h (fun r9 h9 => r9 = none ∧ h9 = r) := by
  intro n9
  induction n9 with
  | zero => intro h a0 a1 a2 a3 r hf; cases hf
  | succ n9 ih9 =>
    intro h a0 a1 a2 a3 r hf
    show PM g l (2 * n9 + 2) _ _ _ _ _ _ _
    have hrec : ∀ h a0 a1 a2 a3 r, f_X1_fill n9 h a0 a1 a2 a3 = some r → PM g l (2 * n9) 0 0 yX1_fill wsX1_fill [.ref a0, .int a1, .int a2, .int a3] h (fun r9 h9 => r9 = none ∧ h9 = r) := fun h a0 a1 a2 a3 r e => ih9 e
    refine pm_of (M := m_X1_fill) (by decide) rfl rfl rfl (Nat.le_of_ble_eq_true rfl) (lo := [some (.ref a0), some (.int a1), some (.int a2), some (.int a3), none, none, none, none, none, none]) rfl ?_
    rw [f_X1_fill] at hf
    refine pw_iload_n dX1_fill_0 rfl ?_
    refine pw_istore dX1_fill_1 (by decide) rfl ?_
    dsimp only [lset, lset2, clr]
    exact pw_lo (lle_s rfl (lle_n (lle_s rfl (lle_s rfl (lle_s rfl (lle_n (lle_n (lle_n (lle_n (lle_n lle_0)))))))))) (w_X1_fill_3 hrec 4096 _ _ _ _ _ hf)
/-! X1_countAll -/
abbrev m_X1_countAll : MD := (cX1_countAll, RX1, "countAll", wsX1_countAll, 3, none)
theorem w9_X1_countAll_X1 : ∀ w ∈ u_ws RX1 TX1 8, w ∈ wsX1_countAll := by decide +kernel
theorem w9_X1_countAll_X2 : ∀ w ∈ u_ws RX2 TX2 4, w ∈ wsX1_countAll := by decide +kernel
theorem hd9_X1_countAll : yX1_countAll.cls = RX1 ∧ yX1_countAll.cls ≠ "java/lang/invoke/MethodHandle" ∧ yX1_countAll.cls ≠ "java/lang/invoke/VarHandle" ∧ (parseMethodDescriptor yX1_countAll.desc).map (fun d => d.parameters.length) = some 1 := by decide +kernel
def f_X1_countAll_82 : Nat → Nat → Nat → Int32 → Hp → Option Hp
  | 0, _, _, _, _ => none
  | n + 1, v0, v1, v2, h => if (15 : Int32) < v2 then (some h) else ((gR h v1 2 3).bind fun x1 => (aI h 0 x1 v2).bind fun x2 => if x2 = 0 then (f_X1_countAll_82 n v0 v1 (v2 + (1)) h) else ((gR h v1 2 3).bind fun x3 => (aI h 0 x3 v2).bind fun x4 => if oK h v0 1 = true then (f_X1_stand h v0 v2 x4 (0 : Int32)).bind fun h5 => f_X1_countAll_82 n v0 v1 (v2 + (1)) h5 else none))
set_option maxHeartbeats 4000000 in
set_option maxRecDepth 100000 in
theorem w_X1_countAll_82 {g : GT} {l : Launch} {r : Hp} : ∀ (n : Nat) (v0 : Nat) (v1 : Nat) (v2 : Int32) (h : Hp), f_X1_countAll_82 n v0 v1 v2 h = some r → PW g l m_X1_countAll 41 0 0 82 [some (.ref v0), some (.ref v1), some (.int v2)] [] h (fun r9 h9 => r9 = none ∧ h9 = r) := by
  intro n
  induction n with
  | zero => intro v0 v1 v2 h hf; cases hf
  | succ n ih =>
    intro v0 v1 v2 h hf
    rw [f_X1_countAll_82] at hf
    refine pw_iload_n dX1_countAll_82 rfl ?_
    refine pw_bipush (v := (15)) dX1_countAll_83 (by decide) ?_
    refine q_icmp_gt (tgt := 115) hf dX1_countAll_85 (by decide) (fun hf _ => ?_) (fun hf _ => ?_)
    · exact pw_vret rfl dX1_countAll_115 ⟨rfl, Option.some.inj hf⟩
    · refine pw_aload_n dX1_countAll_88 rfl ?_
      refine q_gRN (host := "TwinRows") hf rfl (by decide) w9_X1_countAll_X2 (by decide +kernel) dX1_countAll_89 (fun x1 hf => ?_)
      refine pw_iload_n dX1_countAll_92 rfl ?_
      refine q_iald hf dX1_countAll_93 (fun x2 hf => ?_)
      refine q_if_eq (tgt := 109) hf dX1_countAll_94 (by decide) (fun hf _ => ?_) (fun hf _ => ?_)
      · refine pw_iinc (v := v2 + (1)) dX1_countAll_109 rfl rfl (by decide) rfl ?_
        dsimp only [lset, lset2, clr]
        refine pw_goto (tgt := 82) dX1_countAll_112 (by decide) ?_
        exact pw_lo (lle_s rfl (lle_s rfl (lle_s rfl lle_0))) (ih _ _ _ _ hf)
      · refine pw_aload_n dX1_countAll_97 rfl ?_
        refine pw_iload_n dX1_countAll_98 rfl ?_
        refine pw_aload_n dX1_countAll_99 rfl ?_
        refine q_gRN (host := "TwinRows") hf rfl (by decide) w9_X1_countAll_X2 (by decide +kernel) dX1_countAll_100 (fun x3 hf => ?_)
        refine pw_iload_n dX1_countAll_103 rfl ?_
        refine q_iald hf dX1_countAll_104 (fun x4 hf => ?_)
        refine pw_iconst (v := (0)) dX1_countAll_105 (by decide) ?_
        refine q_callV_v (kc2 := 0) (ks2 := 0) (as := [.int v2, .int x4, .int (0 : Int32)]) (rest := []) hf (fun x9 e9 => t_X1_stand e9) gX1_countAll_X1_stand rfl hd9_X1_stand rfl rfl ⟨(by decide), by decide⟩ ⟨rfl, rfl⟩ (Nat.le_of_ble_eq_true rfl) dX1_countAll_106 rfl (fun h5 hf => ?_)
        refine pw_iinc (v := v2 + (1)) dX1_countAll_109 rfl rfl (by decide) rfl ?_
        dsimp only [lset, lset2, clr]
        refine pw_goto (tgt := 82) dX1_countAll_112 (by decide) ?_
        exact pw_lo (lle_s rfl (lle_s rfl (lle_s rfl lle_0))) (ih _ _ _ _ hf)
def f_X1_countAll_12 : Nat → Nat → Nat → Int32 → Hp → Option Hp
  | 0, _, _, _, _ => none
  | n + 1, v0, v1, v2, h => if (15 : Int32) < v2 then (if oK h v0 1 = true then (f_X1_nameDigits h v0 v1).bind fun h1 => if oK h1 v0 1 = true then (f_X1_weighPlaces h1 v0 v1).bind fun h2 => if oK h2 v1 2 = true then (f_X2_isEven h2 v1).bind fun x3 => if x3 = 0 then (some h2) else (if oK h2 v1 2 = true then (f_X2_placesToFill h2 v1).bind fun x4 => if oK h2 v1 2 = true then (f_X2_pinnedPlaces h2 v1 (0 : Int32)).bind fun x5 => (gI h2 v1 2 2).bind fun x6 => if oK h2 v1 2 = true then (f_X2_pinnedPairs h2 v1).bind fun x7 => if oK h2 v0 1 = true then (f_X1_fill 20 h2 v0 (1 : Int32) (x4 &&& (x5 ^^^ (-1 : Int32))) (x6 &&& (x7 ^^^ (-1 : Int32)))).bind fun h8 => f_X1_countAll_82 4096 v0 v1 (1 : Int32) h8 else none else none else none else none) else none else none else none) else ((gR h v0 1 4).bind fun x9 => (aR h 5 x9 v2).bind fun x10 => (f_J7_fill_53178 h x10 (0 : Int32)).bind fun h11 => f_X1_countAll_12 n v0 v1 (v2 + (1)) h11)
set_option maxHeartbeats 4000000 in
set_option maxRecDepth 100000 in
theorem w_X1_countAll_12 {g : GT} {l : Launch} {r : Hp} : ∀ (n : Nat) (v0 : Nat) (v1 : Nat) (v2 : Int32) (h : Hp), f_X1_countAll_12 n v0 v1 v2 h = some r → PW g l m_X1_countAll 41 0 0 12 [some (.ref v0), some (.ref v1), some (.int v2)] [] h (fun r9 h9 => r9 = none ∧ h9 = r) := by
  intro n
  induction n with
  | zero => intro v0 v1 v2 h hf; cases hf
  | succ n ih =>
    intro v0 v1 v2 h hf
    rw [f_X1_countAll_12] at hf
    refine pw_iload_n dX1_countAll_12 rfl ?_
    refine pw_bipush (v := (15)) dX1_countAll_13 (by decide) ?_
    refine q_icmp_gt (tgt := 34) hf dX1_countAll_15 (by decide) (fun hf _ => ?_) (fun hf _ => ?_)
    · refine pw_aload_n dX1_countAll_34 rfl ?_
      refine pw_aload_n dX1_countAll_35 rfl ?_
      refine q_callV_v (kc2 := 0) (ks2 := 0) (as := [.ref v1]) (rest := []) hf (fun x9 e9 => t_X1_nameDigits e9) gX1_countAll_X1_nameDigits rfl hd9_X1_nameDigits rfl rfl ⟨(by decide), by decide⟩ ⟨rfl, rfl⟩ (Nat.le_of_ble_eq_true rfl) dX1_countAll_36 rfl (fun h1 hf => ?_)
      refine pw_aload_n dX1_countAll_39 rfl ?_
      refine pw_aload_n dX1_countAll_40 rfl ?_
      refine q_callV_v (kc2 := 0) (ks2 := 0) (as := [.ref v1]) (rest := []) hf (fun x9 e9 => t_X1_weighPlaces e9) gX1_countAll_X1_weighPlaces rfl hd9_X1_weighPlaces rfl rfl ⟨(by decide), by decide⟩ ⟨rfl, rfl⟩ (Nat.le_of_ble_eq_true rfl) dX1_countAll_41 rfl (fun h2 hf => ?_)
      refine pw_aload_n dX1_countAll_44 rfl ?_
      refine q_callV_i (kc2 := 0) (ks2 := 0) (as := []) (rest := []) hf (fun x9 e9 => t_X2_isEven e9) gX1_countAll_X2_isEven rfl hd9_X2_isEven rfl rfl ⟨(by decide), by decide⟩ ⟨rfl, rfl⟩ (Nat.le_of_ble_eq_true rfl) dX1_countAll_45 rfl (fun x3 hf => ?_)
      refine q_if_ne (tgt := 52) hf dX1_countAll_48 (by decide) (fun hf _ => ?_) (fun hf _ => ?_)
      · refine pw_aload_n dX1_countAll_52 rfl ?_
        refine pw_iconst (v := (1)) dX1_countAll_53 (by decide) ?_
        refine pw_aload_n dX1_countAll_54 rfl ?_
        refine q_callV_i (kc2 := 0) (ks2 := 0) (as := []) (rest := [.int (1 : Int32), .ref v0]) hf (fun x9 e9 => t_X2_placesToFill e9) gX1_countAll_X2_placesToFill rfl hd9_X2_placesToFill rfl rfl ⟨(by decide), by decide⟩ ⟨rfl, rfl⟩ (Nat.le_of_ble_eq_true rfl) dX1_countAll_55 rfl (fun x4 hf => ?_)
        refine pw_aload_n dX1_countAll_58 rfl ?_
        refine pw_iconst (v := (0)) dX1_countAll_59 (by decide) ?_
        refine q_callV_i (kc2 := 0) (ks2 := 0) (as := [.int (0 : Int32)]) (rest := [.int x4, .int (1 : Int32), .ref v0]) hf (fun x9 e9 => t_X2_pinnedPlaces e9) gX1_countAll_X2_pinnedPlaces rfl hd9_X2_pinnedPlaces rfl rfl ⟨(by decide), by decide⟩ ⟨rfl, rfl⟩ (Nat.le_of_ble_eq_true rfl) dX1_countAll_60 rfl (fun x5 hf => ?_)
        refine pw_iconst (v := (-1)) dX1_countAll_63 (by decide) ?_
        refine pw_ixor dX1_countAll_64 ?_
        refine pw_iand dX1_countAll_65 ?_
        refine pw_aload_n dX1_countAll_66 rfl ?_
        refine q_gIN (host := "TwinRows") hf rfl (by decide) w9_X1_countAll_X2 (by decide +kernel) dX1_countAll_67 (fun x6 hf => ?_)
        refine pw_aload_n dX1_countAll_70 rfl ?_
        refine q_callV_i (kc2 := 0) (ks2 := 0) (as := []) (rest := [.int x6, .int (x4 &&& (x5 ^^^ (-1 : Int32))), .int (1 : Int32), .ref v0]) hf (fun x9 e9 => t_X2_pinnedPairs e9) gX1_countAll_X2_pinnedPairs rfl hd9_X2_pinnedPairs rfl rfl ⟨(by decide), by decide⟩ ⟨rfl, rfl⟩ (Nat.le_of_ble_eq_true rfl) dX1_countAll_71 rfl (fun x7 hf => ?_)
        refine pw_iconst (v := (-1)) dX1_countAll_74 (by decide) ?_
        refine pw_ixor dX1_countAll_75 ?_
        refine pw_iand dX1_countAll_76 ?_
        refine q_callV_v (kc2 := 0) (ks2 := 0) (as := [.int (1 : Int32), .int (x4 &&& (x5 ^^^ (-1 : Int32))), .int (x6 &&& (x7 ^^^ (-1 : Int32)))]) (rest := []) hf (fun x9 e9 => t_X1_fill 20 e9) gX1_countAll_X1_fill rfl hd9_X1_fill rfl rfl ⟨(by decide), by decide⟩ ⟨rfl, rfl⟩ (Nat.le_of_ble_eq_true rfl) dX1_countAll_77 rfl (fun h8 hf => ?_)
        refine pw_iconst (v := (1)) dX1_countAll_80 (by decide) ?_
        refine pw_istore_n dX1_countAll_81 (by decide) rfl ?_
        dsimp only [lset, lset2, clr]
        exact pw_lo (lle_s rfl (lle_s rfl (lle_s rfl lle_0))) (w_X1_countAll_82 4096 _ _ _ _ hf)
      · exact pw_vret rfl dX1_countAll_51 ⟨rfl, Option.some.inj hf⟩
    · refine pw_aload_n dX1_countAll_18 rfl ?_
      refine q_gR hf rfl (by decide) w9_X1_countAll_X1 (by decide +kernel) dX1_countAll_19 (fun x9 hf => ?_)
      refine pw_iload_n dX1_countAll_22 rfl ?_
      refine q_aald hf (by decide) rfl dX1_countAll_23 (fun x10 hf => ?_)
      refine pw_iconst (v := (0)) dX1_countAll_24 (by decide) ?_
      refine q_callS_v (kc2 := 0) (ks2 := 0) (as := [.ref x10, .int (0 : Int32)]) (rest := []) hf (fun x9 e9 => t_J7_fill_53178 e9) gX1_countAll_J7_fill_53178 rfl hd9_J7_fill_53178 rfl ⟨(by decide), by decide⟩ ⟨rfl, rfl⟩ (Nat.le_of_ble_eq_true rfl) dX1_countAll_25 rfl (fun h11 hf => ?_)
      refine pw_iinc (v := v2 + (1)) dX1_countAll_28 rfl rfl (by decide) rfl ?_
      dsimp only [lset, lset2, clr]
      refine pw_goto (tgt := 12) dX1_countAll_31 (by decide) ?_
      exact pw_lo (lle_s rfl (lle_s rfl (lle_s rfl lle_0))) (ih _ _ _ _ hf)
def f_X1_countAll (h : Hp) (a0 : Nat) (a1 : Nat) : Option Hp := (pV h a0 1 5 (.int (1 : Int32))).bind fun h1 => (pV h1 a0 1 7 (.int (0 : Int32))).bind fun h2 => f_X1_countAll_12 4096 a0 a1 (1 : Int32) h2
set_option maxHeartbeats 4000000 in
set_option maxRecDepth 100000 in
theorem t_X1_countAll {g : GT} {l : Launch} {h : Hp} {a0 : Nat} {a1 : Nat} {r : Hp} (hf : f_X1_countAll h a0 a1 = some r) : PM g l 41 0 0 yX1_countAll wsX1_countAll [.ref a0, .ref a1] h (fun r9 h9 => r9 = none ∧ h9 = r) := by
  refine pm_of (M := m_X1_countAll) (by decide) rfl rfl rfl (Nat.le_of_ble_eq_true rfl) (lo := [some (.ref a0), some (.ref a1), none]) rfl ?_
  rw [f_X1_countAll] at hf
  refine pw_aload_n dX1_countAll_0 rfl ?_
  refine pw_iconst (v := (1)) dX1_countAll_1 (by decide) ?_
  refine q_pV (ty := .boolean) hf tyX1 tyX1_ok nmX1 rfl (by decide) w9_X1_countAll_X1 (by decide +kernel) rfl (by decide +kernel) rfl rfl dX1_countAll_2 (fun h1 hf => ?_)
  refine pw_aload_n dX1_countAll_5 rfl ?_
  refine pw_iconst (v := (0)) dX1_countAll_6 (by decide) ?_
  refine q_pV (ty := .int) hf tyX1 tyX1_ok nmX1 rfl (by decide) w9_X1_countAll_X1 (by decide +kernel) rfl (by decide +kernel) rfl rfl dX1_countAll_7 (fun h2 hf => ?_)
  refine pw_iconst (v := (1)) dX1_countAll_10 (by decide) ?_
  refine pw_istore_n dX1_countAll_11 (by decide) rfl ?_
  dsimp only [lset, lset2, clr]
  exact pw_lo (lle_s rfl (lle_s rfl (lle_s rfl lle_0))) (w_X1_countAll_12 4096 _ _ _ _ hf)
/-! X1_hasRank -/
abbrev m_X1_hasRank : MD := (cX1_hasRank, RX1, "hasRank", wsX1_hasRank, 2, (some .boolean))
theorem w9_X1_hasRank_X1 : ∀ w ∈ u_ws RX1 TX1 8, w ∈ wsX1_hasRank := by decide +kernel
theorem hd9_X1_hasRank : yX1_hasRank.cls = RX1 ∧ yX1_hasRank.cls ≠ "java/lang/invoke/MethodHandle" ∧ yX1_hasRank.cls ≠ "java/lang/invoke/VarHandle" ∧ (parseMethodDescriptor yX1_hasRank.desc).map (fun d => d.parameters.length) = some 1 := by decide +kernel
def f_X1_hasRank (h : Hp) (a0 : Nat) (a1 : Int32) : Option Int32 := if a1 < 0 then (some ((0 : Int32))) else ((gI h a0 1 7).bind fun x1 => if x1 ≤ a1 then (some ((0 : Int32))) else ((gR h a0 1 0).bind fun x2 => (aN h x2).bind fun x3 => if x3 ≤ a1 then (some ((0 : Int32))) else (some ((1 : Int32)))))
set_option maxHeartbeats 4000000 in
set_option maxRecDepth 100000 in
theorem t_X1_hasRank {g : GT} {l : Launch} {h : Hp} {a0 : Nat} {a1 : Int32} {r : Int32} (hf : f_X1_hasRank h a0 a1 = some r) : PM g l 1 0 0 yX1_hasRank wsX1_hasRank [.ref a0, .int a1] h (fun r9 h9 => r9 = some (.int r) ∧ h9 = h) := by
  refine pm_of (M := m_X1_hasRank) (by decide) rfl rfl rfl (Nat.le_of_ble_eq_true rfl) (lo := [some (.ref a0), some (.int a1)]) rfl ?_
  rw [f_X1_hasRank] at hf
  refine pw_iload_n dX1_hasRank_0 rfl ?_
  refine q_if_lt (tgt := 25) hf dX1_hasRank_1 (by decide) (fun hf _ => ?_) (fun hf _ => ?_)
  · refine pw_iconst (v := (0)) dX1_hasRank_25 (by decide) ?_
    exact pw_iret (x := (0 : Int32)) rfl rfl dX1_hasRank_26 ⟨congrArg (fun z => some (Value.int z)) (Option.some.inj hf), rfl⟩
  · refine pw_iload_n dX1_hasRank_4 rfl ?_
    refine pw_aload_n dX1_hasRank_5 rfl ?_
    refine q_gI hf rfl (by decide) w9_X1_hasRank_X1 (by decide +kernel) dX1_hasRank_6 (fun x1 hf => ?_)
    refine q_icmp_ge (tgt := 25) hf dX1_hasRank_9 (by decide) (fun hf _ => ?_) (fun hf _ => ?_)
    · refine pw_iconst (v := (0)) dX1_hasRank_25 (by decide) ?_
      exact pw_iret (x := (0 : Int32)) rfl rfl dX1_hasRank_26 ⟨congrArg (fun z => some (Value.int z)) (Option.some.inj hf), rfl⟩
    · refine pw_iload_n dX1_hasRank_12 rfl ?_
      refine pw_aload_n dX1_hasRank_13 rfl ?_
      refine q_gR hf rfl (by decide) w9_X1_hasRank_X1 (by decide +kernel) dX1_hasRank_14 (fun x2 hf => ?_)
      refine q_alen hf dX1_hasRank_17 (fun x3 hf => ?_)
      refine q_icmp_ge (tgt := 25) hf dX1_hasRank_18 (by decide) (fun hf _ => ?_) (fun hf _ => ?_)
      · refine pw_iconst (v := (0)) dX1_hasRank_25 (by decide) ?_
        exact pw_iret (x := (0 : Int32)) rfl rfl dX1_hasRank_26 ⟨congrArg (fun z => some (Value.int z)) (Option.some.inj hf), rfl⟩
      · refine pw_iconst (v := (1)) dX1_hasRank_21 (by decide) ?_
        refine pw_goto (tgt := 26) dX1_hasRank_22 (by decide) ?_
        exact pw_iret (x := (1 : Int32)) rfl rfl dX1_hasRank_26 ⟨congrArg (fun z => some (Value.int z)) (Option.some.inj hf), rfl⟩
/-! X1_tell -/
abbrev m_X1_tell : MD := (cX1_tell, RX1, "tell", wsX1_tell, 7, none)
theorem w9_X1_tell_X1 : ∀ w ∈ u_ws RX1 TX1 8, w ∈ wsX1_tell := by decide +kernel
theorem hd9_X1_tell : yX1_tell.cls = RX1 ∧ yX1_tell.cls ≠ "java/lang/invoke/MethodHandle" ∧ yX1_tell.cls ≠ "java/lang/invoke/VarHandle" ∧ (parseMethodDescriptor yX1_tell.desc).map (fun d => d.parameters.length) = some 2 := by decide +kernel
def f_X1_tell_31 : Nat → Nat → Nat → Int64 → Int32 → Hp → Option Hp
  | 0, _, _, _, _, _ => none
  | n + 1, v0, v2, v3, v5, h => if v5 < (1 : Int32) then (some h) else (if (v3 - v3 / (10 : Int64) * (10 : Int64)).toInt32 < (1 : Int32) then ((sI h 0 v2 v5 (0 : Int32)).bind fun h1 => f_X1_tell_31 n v0 v2 (v3 / (10 : Int64)) (v5 + (-1)) h1) else (if (9 : Int32) < (v3 - v3 / (10 : Int64) * (10 : Int64)).toInt32 then ((sI h 0 v2 v5 (0 : Int32)).bind fun h2 => f_X1_tell_31 n v0 v2 (v3 / (10 : Int64)) (v5 + (-1)) h2) else ((gR h v0 1 3).bind fun x3 => (aI h 0 x3 (v3 - v3 / (10 : Int64) * (10 : Int64)).toInt32).bind fun x4 => (sI h 0 v2 v5 x4).bind fun h5 => f_X1_tell_31 n v0 v2 (v3 / (10 : Int64)) (v5 + (-1)) h5)))
set_option maxHeartbeats 4000000 in
set_option maxRecDepth 100000 in
theorem w_X1_tell_31 {g : GT} {l : Launch} {r : Hp} : ∀ (n : Nat) (v0 : Nat) (v2 : Nat) (v3 : Int64) (v5 : Int32) (h : Hp), f_X1_tell_31 n v0 v2 v3 v5 h = some r → PW g l m_X1_tell 2 0 0 31 [some (.ref v0), none, some (.ref v2), some (.long v3), none, some (.int v5), none] [] h (fun r9 h9 => r9 = none ∧ h9 = r) := by
  intro n
  induction n with
  | zero => intro v0 v2 v3 v5 h hf; cases hf
  | succ n ih =>
    intro v0 v2 v3 v5 h hf
    rw [f_X1_tell_31] at hf
    refine pw_iload dX1_tell_31 rfl ?_
    refine pw_iconst (v := (1)) dX1_tell_33 (by decide) ?_
    refine q_icmp_lt (tgt := 85) hf dX1_tell_34 (by decide) (fun hf _ => ?_) (fun hf _ => ?_)
    · exact pw_vret rfl dX1_tell_85 ⟨rfl, Option.some.inj hf⟩
    · refine pw_lload_n dX1_tell_37 rfl ?_
      refine pw_ldc2 (v := (10)) dX1_tell_38 (by decide +kernel) ?_
      refine pw_lrem dX1_tell_41 (by decide) ?_
      refine pw_l2i dX1_tell_42 ?_
      refine pw_istore dX1_tell_43 (by decide) rfl ?_
      dsimp only [lset, lset2, clr]
      refine pw_aload_n dX1_tell_45 rfl ?_
      refine pw_iload dX1_tell_46 rfl ?_
      refine pw_iload dX1_tell_48 rfl ?_
      refine pw_iconst (v := (1)) dX1_tell_50 (by decide) ?_
      refine q_icmp_lt (tgt := 71) hf dX1_tell_51 (by decide) (fun hf _ => ?_) (fun hf _ => ?_)
      · refine pw_iconst (v := (0)) dX1_tell_71 (by decide) ?_
        refine q_iast hf dX1_tell_72 (fun h1 hf => ?_)
        refine pw_lload_n dX1_tell_73 rfl ?_
        refine pw_ldc2 (v := (10)) dX1_tell_74 (by decide +kernel) ?_
        refine pw_ldiv dX1_tell_77 (by decide) ?_
        refine pw_lstore_n dX1_tell_78 (by decide) rfl ?_
        dsimp only [lset, lset2, clr]
        refine pw_iinc (v := v5 + (-1)) dX1_tell_79 rfl rfl (by decide) rfl ?_
        dsimp only [lset, lset2, clr]
        refine pw_goto (tgt := 31) dX1_tell_82 (by decide) ?_
        exact pw_lo (lle_s rfl (lle_n (lle_s rfl (lle_s rfl (lle_n (lle_s rfl (lle_n lle_0))))))) (ih _ _ _ _ _ hf)
      · refine pw_iload dX1_tell_54 rfl ?_
        refine pw_bipush (v := (9)) dX1_tell_56 (by decide) ?_
        refine q_icmp_gt (tgt := 71) hf dX1_tell_58 (by decide) (fun hf _ => ?_) (fun hf _ => ?_)
        · refine pw_iconst (v := (0)) dX1_tell_71 (by decide) ?_
          refine q_iast hf dX1_tell_72 (fun h2 hf => ?_)
          refine pw_lload_n dX1_tell_73 rfl ?_
          refine pw_ldc2 (v := (10)) dX1_tell_74 (by decide +kernel) ?_
          refine pw_ldiv dX1_tell_77 (by decide) ?_
          refine pw_lstore_n dX1_tell_78 (by decide) rfl ?_
          dsimp only [lset, lset2, clr]
          refine pw_iinc (v := v5 + (-1)) dX1_tell_79 rfl rfl (by decide) rfl ?_
          dsimp only [lset, lset2, clr]
          refine pw_goto (tgt := 31) dX1_tell_82 (by decide) ?_
          exact pw_lo (lle_s rfl (lle_n (lle_s rfl (lle_s rfl (lle_n (lle_s rfl (lle_n lle_0))))))) (ih _ _ _ _ _ hf)
        · refine pw_aload_n dX1_tell_61 rfl ?_
          refine q_gR hf rfl (by decide) w9_X1_tell_X1 (by decide +kernel) dX1_tell_62 (fun x3 hf => ?_)
          refine pw_iload dX1_tell_65 rfl ?_
          refine q_iald hf dX1_tell_67 (fun x4 hf => ?_)
          refine pw_goto (tgt := 72) dX1_tell_68 (by decide) ?_
          refine q_iast hf dX1_tell_72 (fun h5 hf => ?_)
          refine pw_lload_n dX1_tell_73 rfl ?_
          refine pw_ldc2 (v := (10)) dX1_tell_74 (by decide +kernel) ?_
          refine pw_ldiv dX1_tell_77 (by decide) ?_
          refine pw_lstore_n dX1_tell_78 (by decide) rfl ?_
          dsimp only [lset, lset2, clr]
          refine pw_iinc (v := v5 + (-1)) dX1_tell_79 rfl rfl (by decide) rfl ?_
          dsimp only [lset, lset2, clr]
          refine pw_goto (tgt := 31) dX1_tell_82 (by decide) ?_
          exact pw_lo (lle_s rfl (lle_n (lle_s rfl (lle_s rfl (lle_n (lle_s rfl (lle_n lle_0))))))) (ih _ _ _ _ _ hf)
def f_X1_tell (h : Hp) (a0 : Nat) (a1 : Int32) (a2 : Nat) : Option Hp := if oK h a0 1 = true then (f_X1_hasRank h a0 a1).bind fun x1 => if x1 = 0 then (some h) else ((gI h a0 1 6).bind fun x2 => (aN h a2).bind fun x3 => if x2 < x3 then ((gR h a0 1 0).bind fun x4 => (aL h x4 a1).bind fun x5 => (gI h a0 1 6).bind fun x6 => f_X1_tell_31 4096 a0 a2 x5 x6 h) else (some h)) else none
set_option maxHeartbeats 4000000 in
set_option maxRecDepth 100000 in
theorem t_X1_tell {g : GT} {l : Launch} {h : Hp} {a0 : Nat} {a1 : Int32} {a2 : Nat} {r : Hp} (hf : f_X1_tell h a0 a1 a2 = some r) : PM g l 2 0 0 yX1_tell wsX1_tell [.ref a0, .int a1, .ref a2] h (fun r9 h9 => r9 = none ∧ h9 = r) := by
  refine pm_of (M := m_X1_tell) (by decide) rfl rfl rfl (Nat.le_of_ble_eq_true rfl) (lo := [some (.ref a0), some (.int a1), some (.ref a2), none, none, none, none]) rfl ?_
  rw [f_X1_tell] at hf
  refine pw_aload_n dX1_tell_0 rfl ?_
  refine pw_iload_n dX1_tell_1 rfl ?_
  refine q_callV_i (kc2 := 0) (ks2 := 0) (as := [.int a1]) (rest := []) hf (fun x9 e9 => t_X1_hasRank e9) gX1_tell_X1_hasRank rfl hd9_X1_hasRank rfl rfl ⟨(by decide), by decide⟩ ⟨rfl, rfl⟩ (Nat.le_of_ble_eq_true rfl) dX1_tell_2 rfl (fun x1 hf => ?_)
  refine q_if_eq (tgt := 17) hf dX1_tell_5 (by decide) (fun hf _ => ?_) (fun hf _ => ?_)
  · exact pw_vret rfl dX1_tell_17 ⟨rfl, Option.some.inj hf⟩
  · refine pw_aload_n dX1_tell_8 rfl ?_
    refine q_gI hf rfl (by decide) w9_X1_tell_X1 (by decide +kernel) dX1_tell_9 (fun x2 hf => ?_)
    refine pw_aload_n dX1_tell_12 rfl ?_
    refine q_alen hf dX1_tell_13 (fun x3 hf => ?_)
    refine q_icmp_lt (tgt := 18) hf dX1_tell_14 (by decide) (fun hf _ => ?_) (fun hf _ => ?_)
    · refine pw_aload_n dX1_tell_18 rfl ?_
      refine q_gR hf rfl (by decide) w9_X1_tell_X1 (by decide +kernel) dX1_tell_19 (fun x4 hf => ?_)
      refine pw_iload_n dX1_tell_22 rfl ?_
      refine q_lald hf dX1_tell_23 (fun x5 hf => ?_)
      refine pw_lstore_n dX1_tell_24 (by decide) rfl ?_
      dsimp only [lset, lset2, clr]
      refine pw_aload_n dX1_tell_25 rfl ?_
      refine q_gI hf rfl (by decide) w9_X1_tell_X1 (by decide +kernel) dX1_tell_26 (fun x6 hf => ?_)
      refine pw_istore dX1_tell_29 (by decide) rfl ?_
      dsimp only [lset, lset2, clr]
      exact pw_lo (lle_s rfl (lle_n (lle_s rfl (lle_s rfl (lle_n (lle_s rfl (lle_n lle_0))))))) (w_X1_tell_31 4096 _ _ _ _ _ hf)
    · exact pw_vret rfl dX1_tell_17 ⟨rfl, Option.some.inj hf⟩
/-! X1_rankOfNumber -/
abbrev m_X1_rankOfNumber : MD := (cX1_rankOfNumber, RX1, "rankOfNumber", wsX1_rankOfNumber, 7, (some .int))
theorem w9_X1_rankOfNumber_X1 : ∀ w ∈ u_ws RX1 TX1 8, w ∈ wsX1_rankOfNumber := by decide +kernel
theorem hd9_X1_rankOfNumber : yX1_rankOfNumber.cls = RX1 ∧ yX1_rankOfNumber.cls ≠ "java/lang/invoke/MethodHandle" ∧ yX1_rankOfNumber.cls ≠ "java/lang/invoke/VarHandle" ∧ (parseMethodDescriptor yX1_rankOfNumber.desc).map (fun d => d.parameters.length) = some 1 := by decide +kernel
def f_X1_rankOfNumber_21 : Nat → Nat → Int64 → Int32 → Int32 → Int32 → Hp → Option Int32
  | 0, _, _, _, _, _, _ => none
  | n + 1, v0, v1, v3, v4, v5, h => if (2656 : Int32) < v5 then (some ((-1 : Int32))) else (if v4 < v3 then (some ((-1 : Int32))) else ((gR h v0 1 0).bind fun x1 => (aL h x1 ((v3 + v4) / (2 : Int32))).bind fun x2 => if (lg_cmp x2 v1) = 0 then (some ((v3 + v4) / (2 : Int32))) else ((gR h v0 1 0).bind fun x3 => (aL h x3 ((v3 + v4) / (2 : Int32))).bind fun x4 => if 0 ≤ (lg_cmp x4 v1) then (f_X1_rankOfNumber_21 n v0 v1 v3 (((v3 + v4) / (2 : Int32)) - (1 : Int32)) (v5 + (1)) h) else (f_X1_rankOfNumber_21 n v0 v1 (((v3 + v4) / (2 : Int32)) + (1 : Int32)) v4 (v5 + (1)) h))))
set_option maxHeartbeats 4000000 in
set_option maxRecDepth 100000 in
theorem w_X1_rankOfNumber_21 {g : GT} {l : Launch} {r : Int32} : ∀ (n : Nat) (v0 : Nat) (v1 : Int64) (v3 : Int32) (v4 : Int32) (v5 : Int32) (h : Hp), f_X1_rankOfNumber_21 n v0 v1 v3 v4 v5 h = some r → PW g l m_X1_rankOfNumber 1 0 0 21 [some (.ref v0), some (.long v1), none, some (.int v3), some (.int v4), some (.int v5), none] [] h (fun r9 h9 => r9 = some (.int r) ∧ h9 = h) := by
  intro n
  induction n with
  | zero => intro v0 v1 v3 v4 v5 h hf; cases hf
  | succ n ih =>
    intro v0 v1 v3 v4 v5 h hf
    rw [f_X1_rankOfNumber_21] at hf
    refine pw_iload dX1_rankOfNumber_21 rfl ?_
    refine pw_sipush (v := (2656)) dX1_rankOfNumber_23 (by decide) ?_
    refine q_icmp_gt (tgt := 90) hf dX1_rankOfNumber_26 (by decide) (fun hf _ => ?_) (fun hf _ => ?_)
    · refine pw_iconst (v := (-1)) dX1_rankOfNumber_90 (by decide) ?_
      exact pw_iret (x := (-1 : Int32)) rfl rfl dX1_rankOfNumber_91 ⟨congrArg (fun z => some (Value.int z)) (Option.some.inj hf), rfl⟩
    · refine pw_iload_n dX1_rankOfNumber_29 rfl ?_
      refine pw_iload dX1_rankOfNumber_30 rfl ?_
      refine q_icmp_gt (tgt := 90) hf dX1_rankOfNumber_32 (by decide) (fun hf _ => ?_) (fun hf _ => ?_)
      · refine pw_iconst (v := (-1)) dX1_rankOfNumber_90 (by decide) ?_
        exact pw_iret (x := (-1 : Int32)) rfl rfl dX1_rankOfNumber_91 ⟨congrArg (fun z => some (Value.int z)) (Option.some.inj hf), rfl⟩
      · refine pw_iload_n dX1_rankOfNumber_35 rfl ?_
        refine pw_iload dX1_rankOfNumber_36 rfl ?_
        refine pw_iadd dX1_rankOfNumber_38 ?_
        refine pw_iconst (v := (2)) dX1_rankOfNumber_39 (by decide) ?_
        refine pw_idiv dX1_rankOfNumber_40 (by decide) ?_
        refine pw_istore dX1_rankOfNumber_41 (by decide) rfl ?_
        dsimp only [lset, lset2, clr]
        refine pw_aload_n dX1_rankOfNumber_43 rfl ?_
        refine q_gR hf rfl (by decide) w9_X1_rankOfNumber_X1 (by decide +kernel) dX1_rankOfNumber_44 (fun x1 hf => ?_)
        refine pw_iload dX1_rankOfNumber_47 rfl ?_
        refine q_lald hf dX1_rankOfNumber_49 (fun x2 hf => ?_)
        refine pw_lload_n dX1_rankOfNumber_50 rfl ?_
        refine pw_lcmp dX1_rankOfNumber_51 ?_
        refine q_if_ne (tgt := 58) hf dX1_rankOfNumber_52 (by decide) (fun hf _ => ?_) (fun hf _ => ?_)
        · refine pw_aload_n dX1_rankOfNumber_58 rfl ?_
          refine q_gR hf rfl (by decide) w9_X1_rankOfNumber_X1 (by decide +kernel) dX1_rankOfNumber_59 (fun x3 hf => ?_)
          refine pw_iload dX1_rankOfNumber_62 rfl ?_
          refine q_lald hf dX1_rankOfNumber_64 (fun x4 hf => ?_)
          refine pw_lload_n dX1_rankOfNumber_65 rfl ?_
          refine pw_lcmp dX1_rankOfNumber_66 ?_
          refine q_if_ge (tgt := 78) hf dX1_rankOfNumber_67 (by decide) (fun hf _ => ?_) (fun hf _ => ?_)
          · refine pw_iload dX1_rankOfNumber_78 rfl ?_
            refine pw_iconst (v := (1)) dX1_rankOfNumber_80 (by decide) ?_
            refine pw_isub dX1_rankOfNumber_81 ?_
            refine pw_istore dX1_rankOfNumber_82 (by decide) rfl ?_
            dsimp only [lset, lset2, clr]
            refine pw_iinc (v := v5 + (1)) dX1_rankOfNumber_84 rfl rfl (by decide) rfl ?_
            dsimp only [lset, lset2, clr]
            refine pw_goto (tgt := 21) dX1_rankOfNumber_87 (by decide) ?_
            exact pw_lo (lle_s rfl (lle_s rfl (lle_n (lle_s rfl (lle_s rfl (lle_s rfl (lle_n lle_0))))))) (ih _ _ _ _ _ _ hf)
          · refine pw_iload dX1_rankOfNumber_70 rfl ?_
            refine pw_iconst (v := (1)) dX1_rankOfNumber_72 (by decide) ?_
            refine pw_iadd dX1_rankOfNumber_73 ?_
            refine pw_istore_n dX1_rankOfNumber_74 (by decide) rfl ?_
            dsimp only [lset, lset2, clr]
            refine pw_goto (tgt := 84) dX1_rankOfNumber_75 (by decide) ?_
            refine pw_iinc (v := v5 + (1)) dX1_rankOfNumber_84 rfl rfl (by decide) rfl ?_
            dsimp only [lset, lset2, clr]
            refine pw_goto (tgt := 21) dX1_rankOfNumber_87 (by decide) ?_
            exact pw_lo (lle_s rfl (lle_s rfl (lle_n (lle_s rfl (lle_s rfl (lle_s rfl (lle_n lle_0))))))) (ih _ _ _ _ _ _ hf)
        · refine pw_iload dX1_rankOfNumber_55 rfl ?_
          exact pw_iret (x := (v3 + v4) / (2 : Int32)) rfl rfl dX1_rankOfNumber_57 ⟨congrArg (fun z => some (Value.int z)) (Option.some.inj hf), rfl⟩
def f_X1_rankOfNumber (h : Hp) (a0 : Nat) (a1 : Int64) : Option Int32 := (gI h a0 1 7).bind fun x1 => (gR h a0 1 0).bind fun x2 => (aN h x2).bind fun x3 => f_X1_rankOfNumber_21 4096 a0 a1 (0 : Int32) ((if x3 < x1 then x3 else x1) - (1 : Int32)) (0 : Int32) h
set_option maxHeartbeats 4000000 in
set_option maxRecDepth 100000 in
theorem t_X1_rankOfNumber {g : GT} {l : Launch} {h : Hp} {a0 : Nat} {a1 : Int64} {r : Int32} (hf : f_X1_rankOfNumber h a0 a1 = some r) : PM g l 1 0 0 yX1_rankOfNumber wsX1_rankOfNumber [.ref a0, .long a1] h (fun r9 h9 => r9 = some (.int r) ∧ h9 = h) := by
  refine pm_of (M := m_X1_rankOfNumber) (by decide) rfl rfl rfl (Nat.le_of_ble_eq_true rfl) (lo := [some (.ref a0), some (.long a1), none, none, none, none, none]) rfl ?_
  rw [f_X1_rankOfNumber] at hf
  refine pw_iconst (v := (0)) dX1_rankOfNumber_0 (by decide) ?_
  refine pw_istore_n dX1_rankOfNumber_1 (by decide) rfl ?_
  dsimp only [lset, lset2, clr]
  refine pw_aload_n dX1_rankOfNumber_2 rfl ?_
  refine q_gI hf rfl (by decide) w9_X1_rankOfNumber_X1 (by decide +kernel) dX1_rankOfNumber_3 (fun x1 hf => ?_)
  refine pw_aload_n dX1_rankOfNumber_6 rfl ?_
  refine q_gR hf rfl (by decide) w9_X1_rankOfNumber_X1 (by decide +kernel) dX1_rankOfNumber_7 (fun x2 hf => ?_)
  refine q_alen hf dX1_rankOfNumber_10 (fun x3 hf => ?_)
  refine pw_min (by decide +kernel) (by decide +kernel) (by decide +kernel) (by decide +kernel) (by decide) (Nat.le_of_ble_eq_true rfl) dX1_rankOfNumber_11 ?_
  refine pw_iconst (v := (1)) dX1_rankOfNumber_14 (by decide) ?_
  refine pw_isub dX1_rankOfNumber_15 ?_
  refine pw_istore dX1_rankOfNumber_16 (by decide) rfl ?_
  dsimp only [lset, lset2, clr]
  refine pw_iconst (v := (0)) dX1_rankOfNumber_18 (by decide) ?_
  refine pw_istore dX1_rankOfNumber_19 (by decide) rfl ?_
  dsimp only [lset, lset2, clr]
  exact pw_lo (lle_s rfl (lle_s rfl (lle_n (lle_s rfl (lle_s rfl (lle_s rfl (lle_n lle_0))))))) (w_X1_rankOfNumber_21 4096 _ _ _ _ _ _ hf)
/-! X1_rankOf -/
abbrev m_X1_rankOf : MD := (cX1_rankOf, RX1, "rankOf", wsX1_rankOf, 6, (some .int))
theorem w9_X1_rankOf_X1 : ∀ w ∈ u_ws RX1 TX1 8, w ∈ wsX1_rankOf := by decide +kernel
theorem hd9_X1_rankOf : yX1_rankOf.cls = RX1 ∧ yX1_rankOf.cls ≠ "java/lang/invoke/MethodHandle" ∧ yX1_rankOf.cls ≠ "java/lang/invoke/VarHandle" ∧ (parseMethodDescriptor yX1_rankOf.desc).map (fun d => d.parameters.length) = some 1 := by decide +kernel
def f_X1_rankOf_16 : Nat → Nat → Nat → Int64 → Int32 → Hp → Option Int32
  | 0, _, _, _, _, _ => none
  | n + 1, v0, v1, v2, v4, h => (gI h v0 1 6).bind fun x1 => if x1 < v4 then (if oK h v0 1 = true then (f_X1_rankOfNumber h v0 v2).bind fun x2 => some (x2) else none) else ((aI h 0 v1 v4).bind fun x3 => if x3 < 0 then (some ((-1 : Int32))) else (if (15 : Int32) < x3 then (some ((-1 : Int32))) else (if x3 = 0 then (if x3 = 0 then (f_X1_rankOf_16 n v0 v1 ((v2 * (10 : Int64)) + (0 : Int32).toInt64) (v4 + (1)) h) else ((gR h v0 1 2).bind fun x4 => (aI h 0 x4 x3).bind fun x5 => f_X1_rankOf_16 n v0 v1 ((v2 * (10 : Int64)) + x5.toInt64) (v4 + (1)) h)) else ((gR h v0 1 2).bind fun x6 => (aI h 0 x6 x3).bind fun x7 => if x7 = 0 then (some ((-1 : Int32))) else (if x3 = 0 then (f_X1_rankOf_16 n v0 v1 ((v2 * (10 : Int64)) + (0 : Int32).toInt64) (v4 + (1)) h) else ((gR h v0 1 2).bind fun x8 => (aI h 0 x8 x3).bind fun x9 => f_X1_rankOf_16 n v0 v1 ((v2 * (10 : Int64)) + x9.toInt64) (v4 + (1)) h))))))
set_option maxHeartbeats 4000000 in
set_option maxRecDepth 100000 in
theorem w_X1_rankOf_16 {g : GT} {l : Launch} {r : Int32} : ∀ (n : Nat) (v0 : Nat) (v1 : Nat) (v2 : Int64) (v4 : Int32) (h : Hp), f_X1_rankOf_16 n v0 v1 v2 v4 h = some r → PW g l m_X1_rankOf 2 0 0 16 [some (.ref v0), some (.ref v1), some (.long v2), none, some (.int v4), none] [] h (fun r9 h9 => r9 = some (.int r) ∧ h9 = h) := by
  intro n
  induction n with
  | zero => intro v0 v1 v2 v4 h hf; cases hf
  | succ n ih =>
    intro v0 v1 v2 v4 h hf
    rw [f_X1_rankOf_16] at hf
    refine pw_iload dX1_rankOf_16 rfl ?_
    refine pw_aload_n dX1_rankOf_18 rfl ?_
    refine q_gI hf rfl (by decide) w9_X1_rankOf_X1 (by decide +kernel) dX1_rankOf_19 (fun x1 hf => ?_)
    refine q_icmp_gt (tgt := 90) hf dX1_rankOf_22 (by decide) (fun hf _ => ?_) (fun hf _ => ?_)
    · refine pw_aload_n dX1_rankOf_90 rfl ?_
      refine pw_lload_n dX1_rankOf_91 rfl ?_
      refine q_callV_i (kc2 := 0) (ks2 := 0) (as := [.long v2]) (rest := []) hf (fun x9 e9 => t_X1_rankOfNumber e9) gX1_rankOf_X1_rankOfNumber rfl hd9_X1_rankOfNumber rfl rfl ⟨(by decide), by decide⟩ ⟨rfl, rfl⟩ (Nat.le_of_ble_eq_true rfl) dX1_rankOf_92 rfl (fun x2 hf => ?_)
      exact pw_iret (x := x2) rfl rfl dX1_rankOf_95 ⟨congrArg (fun z => some (Value.int z)) (Option.some.inj hf), rfl⟩
    · refine pw_aload_n dX1_rankOf_25 rfl ?_
      refine pw_iload dX1_rankOf_26 rfl ?_
      refine q_iald hf dX1_rankOf_28 (fun x3 hf => ?_)
      refine pw_istore dX1_rankOf_29 (by decide) rfl ?_
      dsimp only [lset, lset2, clr]
      refine pw_iload dX1_rankOf_31 rfl ?_
      refine q_if_lt (tgt := 58) hf dX1_rankOf_33 (by decide) (fun hf _ => ?_) (fun hf _ => ?_)
      · refine pw_iconst (v := (-1)) dX1_rankOf_58 (by decide) ?_
        exact pw_iret (x := (-1 : Int32)) rfl rfl dX1_rankOf_59 ⟨congrArg (fun z => some (Value.int z)) (Option.some.inj hf), rfl⟩
      · refine pw_iload dX1_rankOf_36 rfl ?_
        refine pw_bipush (v := (15)) dX1_rankOf_38 (by decide) ?_
        refine q_icmp_gt (tgt := 58) hf dX1_rankOf_40 (by decide) (fun hf _ => ?_) (fun hf _ => ?_)
        · refine pw_iconst (v := (-1)) dX1_rankOf_58 (by decide) ?_
          exact pw_iret (x := (-1 : Int32)) rfl rfl dX1_rankOf_59 ⟨congrArg (fun z => some (Value.int z)) (Option.some.inj hf), rfl⟩
        · refine pw_iload dX1_rankOf_43 rfl ?_
          refine q_if_eq (tgt := 60) hf dX1_rankOf_45 (by decide) (fun hf _ => ?_) (fun hf _ => ?_)
          · refine pw_lload_n dX1_rankOf_60 rfl ?_
            refine pw_ldc2 (v := (10)) dX1_rankOf_61 (by decide +kernel) ?_
            refine pw_lmul dX1_rankOf_64 ?_
            refine pw_iload dX1_rankOf_65 rfl ?_
            refine q_if_ne (tgt := 74) hf dX1_rankOf_67 (by decide) (fun hf _ => ?_) (fun hf _ => ?_)
            · refine pw_aload_n dX1_rankOf_74 rfl ?_
              refine q_gR hf rfl (by decide) w9_X1_rankOf_X1 (by decide +kernel) dX1_rankOf_75 (fun x4 hf => ?_)
              refine pw_iload dX1_rankOf_78 rfl ?_
              refine q_iald hf dX1_rankOf_80 (fun x5 hf => ?_)
              refine pw_i2l dX1_rankOf_81 ?_
              refine pw_ladd dX1_rankOf_82 ?_
              refine pw_lstore_n dX1_rankOf_83 (by decide) rfl ?_
              dsimp only [lset, lset2, clr]
              refine pw_iinc (v := v4 + (1)) dX1_rankOf_84 rfl rfl (by decide) rfl ?_
              dsimp only [lset, lset2, clr]
              refine pw_goto (tgt := 16) dX1_rankOf_87 (by decide) ?_
              exact pw_lo (lle_s rfl (lle_s rfl (lle_s rfl (lle_n (lle_s rfl (lle_n lle_0)))))) (ih _ _ _ _ _ hf)
            · refine pw_iconst (v := (0)) dX1_rankOf_70 (by decide) ?_
              refine pw_goto (tgt := 81) dX1_rankOf_71 (by decide) ?_
              refine pw_i2l dX1_rankOf_81 ?_
              refine pw_ladd dX1_rankOf_82 ?_
              refine pw_lstore_n dX1_rankOf_83 (by decide) rfl ?_
              dsimp only [lset, lset2, clr]
              refine pw_iinc (v := v4 + (1)) dX1_rankOf_84 rfl rfl (by decide) rfl ?_
              dsimp only [lset, lset2, clr]
              refine pw_goto (tgt := 16) dX1_rankOf_87 (by decide) ?_
              exact pw_lo (lle_s rfl (lle_s rfl (lle_s rfl (lle_n (lle_s rfl (lle_n lle_0)))))) (ih _ _ _ _ _ hf)
          · refine pw_aload_n dX1_rankOf_48 rfl ?_
            refine q_gR hf rfl (by decide) w9_X1_rankOf_X1 (by decide +kernel) dX1_rankOf_49 (fun x6 hf => ?_)
            refine pw_iload dX1_rankOf_52 rfl ?_
            refine q_iald hf dX1_rankOf_54 (fun x7 hf => ?_)
            refine q_if_ne (tgt := 60) hf dX1_rankOf_55 (by decide) (fun hf _ => ?_) (fun hf _ => ?_)
            · refine pw_lload_n dX1_rankOf_60 rfl ?_
              refine pw_ldc2 (v := (10)) dX1_rankOf_61 (by decide +kernel) ?_
              refine pw_lmul dX1_rankOf_64 ?_
              refine pw_iload dX1_rankOf_65 rfl ?_
              refine q_if_ne (tgt := 74) hf dX1_rankOf_67 (by decide) (fun hf _ => ?_) (fun hf _ => ?_)
              · refine pw_aload_n dX1_rankOf_74 rfl ?_
                refine q_gR hf rfl (by decide) w9_X1_rankOf_X1 (by decide +kernel) dX1_rankOf_75 (fun x8 hf => ?_)
                refine pw_iload dX1_rankOf_78 rfl ?_
                refine q_iald hf dX1_rankOf_80 (fun x9 hf => ?_)
                refine pw_i2l dX1_rankOf_81 ?_
                refine pw_ladd dX1_rankOf_82 ?_
                refine pw_lstore_n dX1_rankOf_83 (by decide) rfl ?_
                dsimp only [lset, lset2, clr]
                refine pw_iinc (v := v4 + (1)) dX1_rankOf_84 rfl rfl (by decide) rfl ?_
                dsimp only [lset, lset2, clr]
                refine pw_goto (tgt := 16) dX1_rankOf_87 (by decide) ?_
                exact pw_lo (lle_s rfl (lle_s rfl (lle_s rfl (lle_n (lle_s rfl (lle_n lle_0)))))) (ih _ _ _ _ _ hf)
              · refine pw_iconst (v := (0)) dX1_rankOf_70 (by decide) ?_
                refine pw_goto (tgt := 81) dX1_rankOf_71 (by decide) ?_
                refine pw_i2l dX1_rankOf_81 ?_
                refine pw_ladd dX1_rankOf_82 ?_
                refine pw_lstore_n dX1_rankOf_83 (by decide) rfl ?_
                dsimp only [lset, lset2, clr]
                refine pw_iinc (v := v4 + (1)) dX1_rankOf_84 rfl rfl (by decide) rfl ?_
                dsimp only [lset, lset2, clr]
                refine pw_goto (tgt := 16) dX1_rankOf_87 (by decide) ?_
                exact pw_lo (lle_s rfl (lle_s rfl (lle_s rfl (lle_n (lle_s rfl (lle_n lle_0)))))) (ih _ _ _ _ _ hf)
            · refine pw_iconst (v := (-1)) dX1_rankOf_58 (by decide) ?_
              exact pw_iret (x := (-1 : Int32)) rfl rfl dX1_rankOf_59 ⟨congrArg (fun z => some (Value.int z)) (Option.some.inj hf), rfl⟩
def f_X1_rankOf (h : Hp) (a0 : Nat) (a1 : Nat) : Option Int32 := (gI h a0 1 6).bind fun x1 => (aN h a1).bind fun x2 => if x1 < x2 then (f_X1_rankOf_16 4096 a0 a1 (0 : Int64) (1 : Int32) h) else (some ((-1 : Int32)))
set_option maxHeartbeats 4000000 in
set_option maxRecDepth 100000 in
theorem t_X1_rankOf {g : GT} {l : Launch} {h : Hp} {a0 : Nat} {a1 : Nat} {r : Int32} (hf : f_X1_rankOf h a0 a1 = some r) : PM g l 2 0 0 yX1_rankOf wsX1_rankOf [.ref a0, .ref a1] h (fun r9 h9 => r9 = some (.int r) ∧ h9 = h) := by
  refine pm_of (M := m_X1_rankOf) (by decide) rfl rfl rfl (Nat.le_of_ble_eq_true rfl) (lo := [some (.ref a0), some (.ref a1), none, none, none, none]) rfl ?_
  rw [f_X1_rankOf] at hf
  refine pw_aload_n dX1_rankOf_0 rfl ?_
  refine q_gI hf rfl (by decide) w9_X1_rankOf_X1 (by decide +kernel) dX1_rankOf_1 (fun x1 hf => ?_)
  refine pw_aload_n dX1_rankOf_4 rfl ?_
  refine q_alen hf dX1_rankOf_5 (fun x2 hf => ?_)
  refine q_icmp_lt (tgt := 11) hf dX1_rankOf_6 (by decide) (fun hf _ => ?_) (fun hf _ => ?_)
  · refine pw_lconst (v := (0)) dX1_rankOf_11 (by decide) ?_
    refine pw_lstore_n dX1_rankOf_12 (by decide) rfl ?_
    dsimp only [lset, lset2, clr]
    refine pw_iconst (v := (1)) dX1_rankOf_13 (by decide) ?_
    refine pw_istore dX1_rankOf_14 (by decide) rfl ?_
    dsimp only [lset, lset2, clr]
    exact pw_lo (lle_s rfl (lle_s rfl (lle_s rfl (lle_n (lle_s rfl (lle_n lle_0)))))) (w_X1_rankOf_16 4096 _ _ _ _ _ hf)
  · refine pw_iconst (v := (-1)) dX1_rankOf_9 (by decide) ?_
    exact pw_iret (x := (-1 : Int32)) rfl rfl dX1_rankOf_10 ⟨congrArg (fun z => some (Value.int z)) (Option.some.inj hf), rfl⟩
/-! X1_placesOf -/
abbrev m_X1_placesOf : MD := (cX1_placesOf, RX1, "placesOf", wsX1_placesOf, 4, (some .int))
theorem w9_X1_placesOf_X1 : ∀ w ∈ u_ws RX1 TX1 8, w ∈ wsX1_placesOf := by decide +kernel
theorem hd9_X1_placesOf : yX1_placesOf.cls = RX1 ∧ yX1_placesOf.cls ≠ "java/lang/invoke/MethodHandle" ∧ yX1_placesOf.cls ≠ "java/lang/invoke/VarHandle" ∧ (parseMethodDescriptor yX1_placesOf.desc).map (fun d => d.parameters.length) = some 1 := by decide +kernel
def f_X1_placesOf_4 : Nat → Nat → Int32 → Int32 → Int32 → Hp → Option Int32
  | 0, _, _, _, _, _ => none
  | n + 1, v0, v1, v2, v3, h => (gI h v0 1 6).bind fun x1 => if x1 < v3 then (some (v2)) else ((gR h v0 1 4).bind fun x2 => (aR h 5 x2 v1).bind fun x3 => (aI h 0 x3 v3).bind fun x4 => if x4 ≤ 0 then (f_X1_placesOf_4 n v0 v1 v2 (v3 + (1)) h) else ((f_X6_bit h v3).bind fun x5 => f_X1_placesOf_4 n v0 v1 (v2 ||| x5) (v3 + (1)) h))
set_option maxHeartbeats 4000000 in
set_option maxRecDepth 100000 in
theorem w_X1_placesOf_4 {g : GT} {l : Launch} {r : Int32} : ∀ (n : Nat) (v0 : Nat) (v1 : Int32) (v2 : Int32) (v3 : Int32) (h : Hp), f_X1_placesOf_4 n v0 v1 v2 v3 h = some r → PW g l m_X1_placesOf 2 0 0 4 [some (.ref v0), some (.int v1), some (.int v2), some (.int v3)] [] h (fun r9 h9 => r9 = some (.int r) ∧ h9 = h) := by
  intro n
  induction n with
  | zero => intro v0 v1 v2 v3 h hf; cases hf
  | succ n ih =>
    intro v0 v1 v2 v3 h hf
    rw [f_X1_placesOf_4] at hf
    refine pw_iload_n dX1_placesOf_4 rfl ?_
    refine pw_aload_n dX1_placesOf_5 rfl ?_
    refine q_gI hf rfl (by decide) w9_X1_placesOf_X1 (by decide +kernel) dX1_placesOf_6 (fun x1 hf => ?_)
    refine q_icmp_gt (tgt := 36) hf dX1_placesOf_9 (by decide) (fun hf _ => ?_) (fun hf _ => ?_)
    · refine pw_iload_n dX1_placesOf_36 rfl ?_
      exact pw_iret (x := v2) rfl rfl dX1_placesOf_37 ⟨congrArg (fun z => some (Value.int z)) (Option.some.inj hf), rfl⟩
    · refine pw_aload_n dX1_placesOf_12 rfl ?_
      refine q_gR hf rfl (by decide) w9_X1_placesOf_X1 (by decide +kernel) dX1_placesOf_13 (fun x2 hf => ?_)
      refine pw_iload_n dX1_placesOf_16 rfl ?_
      refine q_aald hf (by decide) rfl dX1_placesOf_17 (fun x3 hf => ?_)
      refine pw_iload_n dX1_placesOf_18 rfl ?_
      refine q_iald hf dX1_placesOf_19 (fun x4 hf => ?_)
      refine q_if_le (tgt := 30) hf dX1_placesOf_20 (by decide) (fun hf _ => ?_) (fun hf _ => ?_)
      · refine pw_iinc (v := v3 + (1)) dX1_placesOf_30 rfl rfl (by decide) rfl ?_
        dsimp only [lset, lset2, clr]
        refine pw_goto (tgt := 4) dX1_placesOf_33 (by decide) ?_
        exact pw_lo (lle_s rfl (lle_s rfl (lle_s rfl (lle_s rfl lle_0)))) (ih _ _ _ _ _ hf)
      · refine pw_iload_n dX1_placesOf_23 rfl ?_
        refine pw_iload_n dX1_placesOf_24 rfl ?_
        refine q_callSN_i (host := "TwinRows") (kc2 := 0) (ks2 := 0) (as := [.int v3]) (rest := [.int v2]) hf (fun x9 e9 => t_X6_bit e9) gX1_placesOf_X6_bit_n99 (by decide +kernel) (by decide +kernel) (by decide +kernel) rfl hd9_X6_bit rfl ⟨(by decide), by decide⟩ ⟨rfl, rfl⟩ (Nat.le_of_ble_eq_true rfl) dX1_placesOf_25 rfl (fun x5 hf => ?_)
        refine pw_ior dX1_placesOf_28 ?_
        refine pw_istore_n dX1_placesOf_29 (by decide) rfl ?_
        dsimp only [lset, lset2, clr]
        refine pw_iinc (v := v3 + (1)) dX1_placesOf_30 rfl rfl (by decide) rfl ?_
        dsimp only [lset, lset2, clr]
        refine pw_goto (tgt := 4) dX1_placesOf_33 (by decide) ?_
        exact pw_lo (lle_s rfl (lle_s rfl (lle_s rfl (lle_s rfl lle_0)))) (ih _ _ _ _ _ hf)
def f_X1_placesOf (h : Hp) (a0 : Nat) (a1 : Int32) : Option Int32 := f_X1_placesOf_4 4096 a0 a1 (0 : Int32) (1 : Int32) h
set_option maxHeartbeats 4000000 in
set_option maxRecDepth 100000 in
theorem t_X1_placesOf {g : GT} {l : Launch} {h : Hp} {a0 : Nat} {a1 : Int32} {r : Int32} (hf : f_X1_placesOf h a0 a1 = some r) : PM g l 2 0 0 yX1_placesOf wsX1_placesOf [.ref a0, .int a1] h (fun r9 h9 => r9 = some (.int r) ∧ h9 = h) := by
  refine pm_of (M := m_X1_placesOf) (by decide) rfl rfl rfl (Nat.le_of_ble_eq_true rfl) (lo := [some (.ref a0), some (.int a1), none, none]) rfl ?_
  rw [f_X1_placesOf] at hf
  refine pw_iconst (v := (0)) dX1_placesOf_0 (by decide) ?_
  refine pw_istore_n dX1_placesOf_1 (by decide) rfl ?_
  dsimp only [lset, lset2, clr]
  refine pw_iconst (v := (1)) dX1_placesOf_2 (by decide) ?_
  refine pw_istore_n dX1_placesOf_3 (by decide) rfl ?_
  dsimp only [lset, lset2, clr]
  exact pw_lo (lle_s rfl (lle_s rfl (lle_s rfl (lle_s rfl lle_0)))) (w_X1_placesOf_4 4096 _ _ _ _ _ hf)
/-! X1_isSure -/
abbrev m_X1_isSure : MD := (cX1_isSure, RX1, "isSure", wsX1_isSure, 2, (some .boolean))
theorem hd9_X1_isSure : yX1_isSure.cls = RX1 ∧ yX1_isSure.cls ≠ "java/lang/invoke/MethodHandle" ∧ yX1_isSure.cls ≠ "java/lang/invoke/VarHandle" ∧ (parseMethodDescriptor yX1_isSure.desc).map (fun d => d.parameters.length) = some 1 := by decide +kernel
def f_X1_isSure (h : Hp) (a0 : Nat) (a1 : Int32) : Option Int32 := if oK h a0 1 = true then (f_X1_placesOf h a0 a1).bind fun x1 => (f_J6_bitCount_0f7a4 h x1).bind fun x2 => if x2 = (1 : Int32) then (some ((1 : Int32))) else (some ((0 : Int32))) else none
set_option maxHeartbeats 4000000 in
set_option maxRecDepth 100000 in
theorem t_X1_isSure {g : GT} {l : Launch} {h : Hp} {a0 : Nat} {a1 : Int32} {r : Int32} (hf : f_X1_isSure h a0 a1 = some r) : PM g l 3 0 0 yX1_isSure wsX1_isSure [.ref a0, .int a1] h (fun r9 h9 => r9 = some (.int r) ∧ h9 = h) := by
  refine pm_of (M := m_X1_isSure) (by decide) rfl rfl rfl (Nat.le_of_ble_eq_true rfl) (lo := [some (.ref a0), some (.int a1)]) rfl ?_
  rw [f_X1_isSure] at hf
  refine pw_aload_n dX1_isSure_0 rfl ?_
  refine pw_iload_n dX1_isSure_1 rfl ?_
  refine q_callV_i (kc2 := 0) (ks2 := 0) (as := [.int a1]) (rest := []) hf (fun x9 e9 => t_X1_placesOf e9) gX1_isSure_X1_placesOf rfl hd9_X1_placesOf rfl rfl ⟨(by decide), by decide⟩ ⟨rfl, rfl⟩ (Nat.le_of_ble_eq_true rfl) dX1_isSure_2 rfl (fun x1 hf => ?_)
  refine q_callS_i (kc2 := 0) (ks2 := 0) (as := [.int x1]) (rest := []) hf (fun x9 e9 => t_J6_bitCount_0f7a4 e9) gX1_isSure_J6_bitCount_0f7a4 rfl hd9_J6_bitCount_0f7a4 rfl ⟨(by decide), by decide⟩ ⟨rfl, rfl⟩ (Nat.le_of_ble_eq_true rfl) dX1_isSure_5 rfl (fun x2 hf => ?_)
  refine pw_iconst (v := (1)) dX1_isSure_8 (by decide) ?_
  refine q_icmp_ne (tgt := 16) hf dX1_isSure_9 (by decide) (fun hf _ => ?_) (fun hf _ => ?_)
  · refine pw_iconst (v := (0)) dX1_isSure_16 (by decide) ?_
    exact pw_iret (x := (0 : Int32)) rfl rfl dX1_isSure_17 ⟨congrArg (fun z => some (Value.int z)) (Option.some.inj hf), rfl⟩
  · refine pw_iconst (v := (1)) dX1_isSure_12 (by decide) ?_
    refine pw_goto (tgt := 17) dX1_isSure_13 (by decide) ?_
    exact pw_iret (x := (1 : Int32)) rfl rfl dX1_isSure_17 ⟨congrArg (fun z => some (Value.int z)) (Option.some.inj hf), rfl⟩
