/-! X7_copy -/
abbrev m_X7_copy : MD := (cX7_copy, RX7, "copy", wsX7_copy, 5, none)
theorem hd9_X7_copy : yX7_copy.cls ≠ "java/lang/invoke/MethodHandle" ∧ yX7_copy.cls ≠ "java/lang/invoke/VarHandle" ∧ (parseMethodDescriptor yX7_copy.desc).map (fun d => d.parameters.length) = some 4 := by decide +kernel
def f_X7_copy_3 : Nat → Nat → Int32 → Nat → Int32 → Int32 → Hp → Option Hp
  | 0, _, _, _, _, _, _ => none
  | n + 1, v0, v1, v2, v3, v4, h => if (19 : Int32) ≤ v4 then (some h) else ((aI h 0 v0 (v1 + v4)).bind fun x1 => (sI h 0 v2 (v3 + v4) x1).bind fun h2 => f_X7_copy_3 n v0 v1 v2 v3 (v4 + (1)) h2)
set_option maxHeartbeats 4000000 in
set_option maxRecDepth 100000 in
theorem w_X7_copy_3 {g : GT} {l : Launch} {r : Hp} : ∀ (n : Nat) (v0 : Nat) (v1 : Int32) (v2 : Nat) (v3 : Int32) (v4 : Int32) (h : Hp), f_X7_copy_3 n v0 v1 v2 v3 v4 h = some r → PW g l m_X7_copy 1 0 0 3 [some (.ref v0), some (.int v1), some (.ref v2), some (.int v3), some (.int v4)] [] h (fun r9 h9 => r9 = none ∧ h9 = r) := by
  intro n
  induction n with
  | zero => intro v0 v1 v2 v3 v4 h hf; cases hf
  | succ n ih =>
    intro v0 v1 v2 v3 v4 h hf
    rw [f_X7_copy_3] at hf
    refine pw_iload dX7_copy_3 rfl ?_
    refine pw_bipush (v := (19)) dX7_copy_5 (by decide) ?_
    refine q_icmp_ge (tgt := 28) hf dX7_copy_7 (by decide) (fun hf _ => ?_) (fun hf _ => ?_)
    · exact pw_vret rfl dX7_copy_28 ⟨rfl, Option.some.inj hf⟩
    · refine pw_aload_n dX7_copy_10 rfl ?_
      refine pw_iload_n dX7_copy_11 rfl ?_
      refine pw_iload dX7_copy_12 rfl ?_
      refine pw_iadd dX7_copy_14 ?_
      refine pw_aload_n dX7_copy_15 rfl ?_
      refine pw_iload_n dX7_copy_16 rfl ?_
      refine pw_iload dX7_copy_17 rfl ?_
      refine pw_iadd dX7_copy_19 ?_
      refine q_iald hf dX7_copy_20 (fun x1 hf => ?_)
      refine q_iast hf dX7_copy_21 (fun h2 hf => ?_)
      refine pw_iinc (v := v4 + (1)) dX7_copy_22 rfl rfl (by decide) rfl ?_
      dsimp only [lset, lset2, clr]
      refine pw_goto (tgt := 3) dX7_copy_25 (by decide) ?_
      exact pw_lo (lle_s rfl (lle_s rfl (lle_s rfl (lle_s rfl (lle_s rfl lle_0))))) (ih _ _ _ _ _ _ hf)
def f_X7_copy (h : Hp) (a0 : Nat) (a1 : Int32) (a2 : Nat) (a3 : Int32) : Option Hp := f_X7_copy_3 4096 a0 a1 a2 a3 (0 : Int32) h
set_option maxHeartbeats 4000000 in
set_option maxRecDepth 100000 in
theorem t_X7_copy {g : GT} {l : Launch} {h : Hp} {a0 : Nat} {a1 : Int32} {a2 : Nat} {a3 : Int32} {r : Hp} (hf : f_X7_copy h a0 a1 a2 a3 = some r) : PM g l 1 0 0 yX7_copy wsX7_copy [.ref a0, .int a1, .ref a2, .int a3] h (fun r9 h9 => r9 = none ∧ h9 = r) := by
  refine pm_of (M := m_X7_copy) (by decide) rfl rfl rfl (Nat.le_of_ble_eq_true rfl) (lo := [some (.ref a0), some (.int a1), some (.ref a2), some (.int a3), none]) rfl ?_
  rw [f_X7_copy] at hf
  refine pw_iconst (v := (0)) dX7_copy_0 (by decide) ?_
  refine pw_istore dX7_copy_1 (by decide) rfl ?_
  dsimp only [lset, lset2, clr]
  exact pw_lo (lle_s rfl (lle_s rfl (lle_s rfl (lle_s rfl (lle_s rfl lle_0))))) (w_X7_copy_3 4096 _ _ _ _ _ _ hf)
/-! X7_isTold -/
abbrev m_X7_isTold : MD := (cX7_isTold, RX7, "isTold", wsX7_isTold, 2, (some .boolean))
theorem hd9_X7_isTold : yX7_isTold.cls ≠ "java/lang/invoke/MethodHandle" ∧ yX7_isTold.cls ≠ "java/lang/invoke/VarHandle" ∧ (parseMethodDescriptor yX7_isTold.desc).map (fun d => d.parameters.length) = some 2 := by decide +kernel
def f_X7_isTold (h : Hp) (a0 : Nat) (a1 : Int32) : Option Int32 := (f_X7_isIn h a1 (1 : Int32) (15 : Int32)).bind fun x1 => if x1 = 0 then (some ((0 : Int32))) else ((aI h 0 a0 (2 : Int32)).bind fun x2 => (f_X7_has h x2 (a1 - (1 : Int32))).bind fun x3 => if x3 = 0 then (some ((0 : Int32))) else (some ((1 : Int32))))
set_option maxHeartbeats 4000000 in
set_option maxRecDepth 100000 in
theorem t_X7_isTold {g : GT} {l : Launch} {h : Hp} {a0 : Nat} {a1 : Int32} {r : Int32} (hf : f_X7_isTold h a0 a1 = some r) : PM g l 2 0 0 yX7_isTold wsX7_isTold [.ref a0, .int a1] h (fun r9 h9 => r9 = some (.int r) ∧ h9 = h) := by
  refine pm_of (M := m_X7_isTold) (by decide) rfl rfl rfl (Nat.le_of_ble_eq_true rfl) (lo := [some (.ref a0), some (.int a1)]) rfl ?_
  rw [f_X7_isTold] at hf
  refine pw_iload_n dX7_isTold_0 rfl ?_
  refine pw_iconst (v := (1)) dX7_isTold_1 (by decide) ?_
  refine pw_bipush (v := (15)) dX7_isTold_2 (by decide) ?_
  refine q_callS_i (kc2 := 0) (ks2 := 0) (as := [.int a1, .int (1 : Int32), .int (15 : Int32)]) (rest := []) hf (fun x9 e9 => t_X7_isIn e9) gX7_isTold_X7_isIn rfl hd9_X7_isIn rfl ⟨(by decide), by decide⟩ ⟨rfl, rfl⟩ (Nat.le_of_ble_eq_true rfl) dX7_isTold_4 rfl (fun x1 hf => ?_)
  refine q_if_eq (tgt := 26) hf dX7_isTold_7 (by decide) (fun hf _ => ?_) (fun hf _ => ?_)
  · refine pw_iconst (v := (0)) dX7_isTold_26 (by decide) ?_
    exact pw_iret (x := (0 : Int32)) rfl rfl dX7_isTold_27 ⟨congrArg (fun z => some (Value.int z)) (Option.some.inj hf), rfl⟩
  · refine pw_aload_n dX7_isTold_10 rfl ?_
    refine pw_iconst (v := (2)) dX7_isTold_11 (by decide) ?_
    refine q_iald hf dX7_isTold_12 (fun x2 hf => ?_)
    refine pw_iload_n dX7_isTold_13 rfl ?_
    refine pw_iconst (v := (1)) dX7_isTold_14 (by decide) ?_
    refine pw_isub dX7_isTold_15 ?_
    refine q_callS_i (kc2 := 0) (ks2 := 0) (as := [.int x2, .int (a1 - (1 : Int32))]) (rest := []) hf (fun x9 e9 => t_X7_has e9) gX7_isTold_X7_has rfl hd9_X7_has rfl ⟨(by decide), by decide⟩ ⟨rfl, rfl⟩ (Nat.le_of_ble_eq_true rfl) dX7_isTold_16 rfl (fun x3 hf => ?_)
    refine q_if_eq (tgt := 26) hf dX7_isTold_19 (by decide) (fun hf _ => ?_) (fun hf _ => ?_)
    · refine pw_iconst (v := (0)) dX7_isTold_26 (by decide) ?_
      exact pw_iret (x := (0 : Int32)) rfl rfl dX7_isTold_27 ⟨congrArg (fun z => some (Value.int z)) (Option.some.inj hf), rfl⟩
    · refine pw_iconst (v := (1)) dX7_isTold_22 (by decide) ?_
      refine pw_goto (tgt := 27) dX7_isTold_23 (by decide) ?_
      exact pw_iret (x := (1 : Int32)) rfl rfl dX7_isTold_27 ⟨congrArg (fun z => some (Value.int z)) (Option.some.inj hf), rfl⟩
/-! X7_pins -/
abbrev m_X7_pins : MD := (cX7_pins, RX7, "pins", wsX7_pins, 4, (some .int))
theorem hd9_X7_pins : yX7_pins.cls ≠ "java/lang/invoke/MethodHandle" ∧ yX7_pins.cls ≠ "java/lang/invoke/VarHandle" ∧ (parseMethodDescriptor yX7_pins.desc).map (fun d => d.parameters.length) = some 2 := by decide +kernel
def f_X7_pins_4 : Nat → Nat → Int32 → Int32 → Int32 → Hp → Option Int32
  | 0, _, _, _, _, _ => none
  | n + 1, v0, v1, v2, v3, h => if (15 : Int32) < v3 then (some (v2)) else (if v3 = v1 then (f_X7_pins_4 n v0 v1 v2 (v3 + (1)) h) else ((f_X7_isTold h v0 v3).bind fun x1 => if x1 = 0 then (f_X7_pins_4 n v0 v1 v2 (v3 + (1)) h) else ((aI h 0 v0 ((3 : Int32) + v3)).bind fun x2 => if x2 ≤ 0 then (f_X7_pins_4 n v0 v1 v2 (v3 + (1)) h) else ((aI h 0 v0 ((3 : Int32) + v3)).bind fun x3 => (aI h 0 v0 ((3 : Int32) + v3)).bind fun x4 => f_X7_pins_4 n v0 v1 (v2 ||| (((1 : Int32) <<< ((x3 - (1 : Int32)) &&& 31)) ||| ((1 : Int32) <<< (((x4 + v3) - (1 : Int32)) &&& 31)))) (v3 + (1)) h))))
set_option maxHeartbeats 4000000 in
set_option maxRecDepth 100000 in
theorem w_X7_pins_4 {g : GT} {l : Launch} {r : Int32} : ∀ (n : Nat) (v0 : Nat) (v1 : Int32) (v2 : Int32) (v3 : Int32) (h : Hp), f_X7_pins_4 n v0 v1 v2 v3 h = some r → PW g l m_X7_pins 3 0 0 4 [some (.ref v0), some (.int v1), some (.int v2), some (.int v3)] [] h (fun r9 h9 => r9 = some (.int r) ∧ h9 = h) := by
  intro n
  induction n with
  | zero => intro v0 v1 v2 v3 h hf; cases hf
  | succ n ih =>
    intro v0 v1 v2 v3 h hf
    rw [f_X7_pins_4] at hf
    refine pw_iload_n dX7_pins_4 rfl ?_
    refine pw_bipush (v := (15)) dX7_pins_5 (by decide) ?_
    refine q_icmp_gt (tgt := 61) hf dX7_pins_7 (by decide) (fun hf _ => ?_) (fun hf _ => ?_)
    · refine pw_iload_n dX7_pins_61 rfl ?_
      exact pw_iret (x := v2) rfl rfl dX7_pins_62 ⟨congrArg (fun z => some (Value.int z)) (Option.some.inj hf), rfl⟩
    · refine pw_iload_n dX7_pins_10 rfl ?_
      refine pw_iload_n dX7_pins_11 rfl ?_
      refine q_icmp_eq (tgt := 55) hf dX7_pins_12 (by decide) (fun hf _ => ?_) (fun hf _ => ?_)
      · refine pw_iinc (v := v3 + (1)) dX7_pins_55 rfl rfl (by decide) rfl ?_
        dsimp only [lset, lset2, clr]
        refine pw_goto (tgt := 4) dX7_pins_58 (by decide) ?_
        exact pw_lo (lle_s rfl (lle_s rfl (lle_s rfl (lle_s rfl lle_0)))) (ih _ _ _ _ _ hf)
      · refine pw_aload_n dX7_pins_15 rfl ?_
        refine pw_iload_n dX7_pins_16 rfl ?_
        refine q_callS_i (kc2 := 0) (ks2 := 0) (as := [.ref v0, .int v3]) (rest := []) hf (fun x9 e9 => t_X7_isTold e9) gX7_pins_X7_isTold rfl hd9_X7_isTold rfl ⟨(by decide), by decide⟩ ⟨rfl, rfl⟩ (Nat.le_of_ble_eq_true rfl) dX7_pins_17 rfl (fun x1 hf => ?_)
        refine q_if_eq (tgt := 55) hf dX7_pins_20 (by decide) (fun hf _ => ?_) (fun hf _ => ?_)
        · refine pw_iinc (v := v3 + (1)) dX7_pins_55 rfl rfl (by decide) rfl ?_
          dsimp only [lset, lset2, clr]
          refine pw_goto (tgt := 4) dX7_pins_58 (by decide) ?_
          exact pw_lo (lle_s rfl (lle_s rfl (lle_s rfl (lle_s rfl lle_0)))) (ih _ _ _ _ _ hf)
        · refine pw_aload_n dX7_pins_23 rfl ?_
          refine pw_iconst (v := (3)) dX7_pins_24 (by decide) ?_
          refine pw_iload_n dX7_pins_25 rfl ?_
          refine pw_iadd dX7_pins_26 ?_
          refine q_iald hf dX7_pins_27 (fun x2 hf => ?_)
          refine q_if_le (tgt := 55) hf dX7_pins_28 (by decide) (fun hf _ => ?_) (fun hf _ => ?_)
          · refine pw_iinc (v := v3 + (1)) dX7_pins_55 rfl rfl (by decide) rfl ?_
            dsimp only [lset, lset2, clr]
            refine pw_goto (tgt := 4) dX7_pins_58 (by decide) ?_
            exact pw_lo (lle_s rfl (lle_s rfl (lle_s rfl (lle_s rfl lle_0)))) (ih _ _ _ _ _ hf)
          · refine pw_iload_n dX7_pins_31 rfl ?_
            refine pw_iconst (v := (1)) dX7_pins_32 (by decide) ?_
            refine pw_aload_n dX7_pins_33 rfl ?_
            refine pw_iconst (v := (3)) dX7_pins_34 (by decide) ?_
            refine pw_iload_n dX7_pins_35 rfl ?_
            refine pw_iadd dX7_pins_36 ?_
            refine q_iald hf dX7_pins_37 (fun x3 hf => ?_)
            refine pw_iconst (v := (1)) dX7_pins_38 (by decide) ?_
            refine pw_isub dX7_pins_39 ?_
            refine pw_ishl dX7_pins_40 ?_
            refine pw_iconst (v := (1)) dX7_pins_41 (by decide) ?_
            refine pw_aload_n dX7_pins_42 rfl ?_
            refine pw_iconst (v := (3)) dX7_pins_43 (by decide) ?_
            refine pw_iload_n dX7_pins_44 rfl ?_
            refine pw_iadd dX7_pins_45 ?_
            refine q_iald hf dX7_pins_46 (fun x4 hf => ?_)
            refine pw_iload_n dX7_pins_47 rfl ?_
            refine pw_iadd dX7_pins_48 ?_
            refine pw_iconst (v := (1)) dX7_pins_49 (by decide) ?_
            refine pw_isub dX7_pins_50 ?_
            refine pw_ishl dX7_pins_51 ?_
            refine pw_ior dX7_pins_52 ?_
            refine pw_ior dX7_pins_53 ?_
            refine pw_istore_n dX7_pins_54 (by decide) rfl ?_
            dsimp only [lset, lset2, clr]
            refine pw_iinc (v := v3 + (1)) dX7_pins_55 rfl rfl (by decide) rfl ?_
            dsimp only [lset, lset2, clr]
            refine pw_goto (tgt := 4) dX7_pins_58 (by decide) ?_
            exact pw_lo (lle_s rfl (lle_s rfl (lle_s rfl (lle_s rfl lle_0)))) (ih _ _ _ _ _ hf)
def f_X7_pins (h : Hp) (a0 : Nat) (a1 : Int32) : Option Int32 := f_X7_pins_4 4096 a0 a1 (0 : Int32) (1 : Int32) h
set_option maxHeartbeats 4000000 in
set_option maxRecDepth 100000 in
theorem t_X7_pins {g : GT} {l : Launch} {h : Hp} {a0 : Nat} {a1 : Int32} {r : Int32} (hf : f_X7_pins h a0 a1 = some r) : PM g l 3 0 0 yX7_pins wsX7_pins [.ref a0, .int a1] h (fun r9 h9 => r9 = some (.int r) ∧ h9 = h) := by
  refine pm_of (M := m_X7_pins) (by decide) rfl rfl rfl (Nat.le_of_ble_eq_true rfl) (lo := [some (.ref a0), some (.int a1), none, none]) rfl ?_
  rw [f_X7_pins] at hf
  refine pw_iconst (v := (0)) dX7_pins_0 (by decide) ?_
  refine pw_istore_n dX7_pins_1 (by decide) rfl ?_
  dsimp only [lset, lset2, clr]
  refine pw_iconst (v := (1)) dX7_pins_2 (by decide) ?_
  refine pw_istore_n dX7_pins_3 (by decide) rfl ?_
  dsimp only [lset, lset2, clr]
  exact pw_lo (lle_s rfl (lle_s rfl (lle_s rfl (lle_s rfl lle_0)))) (w_X7_pins_4 4096 _ _ _ _ _ hf)
/-! X7_mayPin -/
abbrev m_X7_mayPin : MD := (cX7_mayPin, RX7, "mayPin", wsX7_mayPin, 3, (some .boolean))
theorem hd9_X7_mayPin : yX7_mayPin.cls ≠ "java/lang/invoke/MethodHandle" ∧ yX7_mayPin.cls ≠ "java/lang/invoke/VarHandle" ∧ (parseMethodDescriptor yX7_mayPin.desc).map (fun d => d.parameters.length) = some 3 := by decide +kernel
def f_X7_mayPin (h : Hp) (a0 : Nat) (a1 : Int32) (a2 : Int32) : Option Int32 := (aI h 0 a0 (1 : Int32)).bind fun x1 => (f_X7_pins h a0 a1).bind fun x2 => if ((x1 ||| x2) &&& (((1 : Int32) <<< ((a2 - (1 : Int32)) &&& 31)) ||| ((1 : Int32) <<< (((a2 + a1) - (1 : Int32)) &&& 31)))) = 0 then (some ((1 : Int32))) else (some ((0 : Int32)))
set_option maxHeartbeats 4000000 in
set_option maxRecDepth 100000 in
theorem t_X7_mayPin {g : GT} {l : Launch} {h : Hp} {a0 : Nat} {a1 : Int32} {a2 : Int32} {r : Int32} (hf : f_X7_mayPin h a0 a1 a2 = some r) : PM g l 4 0 0 yX7_mayPin wsX7_mayPin [.ref a0, .int a1, .int a2] h (fun r9 h9 => r9 = some (.int r) ∧ h9 = h) := by
  refine pm_of (M := m_X7_mayPin) (by decide) rfl rfl rfl (Nat.le_of_ble_eq_true rfl) (lo := [some (.ref a0), some (.int a1), some (.int a2)]) rfl ?_
  rw [f_X7_mayPin] at hf
  refine pw_aload_n dX7_mayPin_0 rfl ?_
  refine pw_iconst (v := (1)) dX7_mayPin_1 (by decide) ?_
  refine q_iald hf dX7_mayPin_2 (fun x1 hf => ?_)
  refine pw_aload_n dX7_mayPin_3 rfl ?_
  refine pw_iload_n dX7_mayPin_4 rfl ?_
  refine q_callS_i (kc2 := 0) (ks2 := 0) (as := [.ref a0, .int a1]) (rest := [.int x1]) hf (fun x9 e9 => t_X7_pins e9) gX7_mayPin_X7_pins rfl hd9_X7_pins rfl ⟨(by decide), by decide⟩ ⟨rfl, rfl⟩ (Nat.le_of_ble_eq_true rfl) dX7_mayPin_5 rfl (fun x2 hf => ?_)
  refine pw_ior dX7_mayPin_8 ?_
  refine pw_iconst (v := (1)) dX7_mayPin_9 (by decide) ?_
  refine pw_iload_n dX7_mayPin_10 rfl ?_
  refine pw_iconst (v := (1)) dX7_mayPin_11 (by decide) ?_
  refine pw_isub dX7_mayPin_12 ?_
  refine pw_ishl dX7_mayPin_13 ?_
  refine pw_iconst (v := (1)) dX7_mayPin_14 (by decide) ?_
  refine pw_iload_n dX7_mayPin_15 rfl ?_
  refine pw_iload_n dX7_mayPin_16 rfl ?_
  refine pw_iadd dX7_mayPin_17 ?_
  refine pw_iconst (v := (1)) dX7_mayPin_18 (by decide) ?_
  refine pw_isub dX7_mayPin_19 ?_
  refine pw_ishl dX7_mayPin_20 ?_
  refine pw_ior dX7_mayPin_21 ?_
  refine pw_iand dX7_mayPin_22 ?_
  refine q_if_ne (tgt := 30) hf dX7_mayPin_23 (by decide) (fun hf _ => ?_) (fun hf _ => ?_)
  · refine pw_iconst (v := (0)) dX7_mayPin_30 (by decide) ?_
    exact pw_iret (x := (0 : Int32)) rfl rfl dX7_mayPin_31 ⟨congrArg (fun z => some (Value.int z)) (Option.some.inj hf), rfl⟩
  · refine pw_iconst (v := (1)) dX7_mayPin_26 (by decide) ?_
    refine pw_goto (tgt := 31) dX7_mayPin_27 (by decide) ?_
    exact pw_iret (x := (1 : Int32)) rfl rfl dX7_mayPin_31 ⟨congrArg (fun z => some (Value.int z)) (Option.some.inj hf), rfl⟩
/-! X7_readHole -/
abbrev m_X7_readHole : MD := (cX7_readHole, RX7, "readHole", wsX7_readHole, 1, (some .boolean))
theorem w9_X7_readHole_X7 : ∀ w ∈ u_ws RX7 TX7 31, w ∈ wsX7_readHole := by decide +kernel
theorem hd9_X7_readHole : yX7_readHole.cls = RX7 ∧ yX7_readHole.cls ≠ "java/lang/invoke/MethodHandle" ∧ yX7_readHole.cls ≠ "java/lang/invoke/VarHandle" ∧ (parseMethodDescriptor yX7_readHole.desc).map (fun d => d.parameters.length) = some 0 := by decide +kernel
def f_X7_readHole (h : Hp) (a0 : Nat) : Option (Int32 × Hp) := if oK h a0 7 = true then (f_X7_goes h a0).bind fun h1 => (gR h1 a0 7 12).bind fun x2 => (aI h1 0 x2 (0 : Int32)).bind fun x3 => if oK h1 a0 7 = true then (f_X7_isNumber h1 a0 (1 : Int32) x3).bind fun x4 => if x4.1 = 0 then (some (((0 : Int32), x4.2))) else ((gR x4.2 a0 7 12).bind fun x5 => (aI x4.2 0 x5 (1 : Int32)).bind fun x6 => (gR x4.2 a0 7 12).bind fun x7 => (f_X7_pins x4.2 x7 (0 : Int32)).bind fun x8 => (gI x4.2 a0 7 7).bind fun x9 => (f_X7_has x4.2 (x6 ||| x8) (x9 - (1 : Int32))).bind fun x10 => if x10 = 0 then ((gR x4.2 a0 7 12).bind fun x11 => (aI x4.2 0 x11 (1 : Int32)).bind fun x12 => (gI x4.2 a0 7 7).bind fun x13 => (sI x4.2 0 x11 (1 : Int32) (x12 ||| ((1 : Int32) <<< ((x13 - (1 : Int32)) &&& 31)))).bind fun h14 => if oK h14 a0 7 = true then (f_X7_goes h14 a0).bind fun h15 => some (((1 : Int32), h15)) else none) else (if oK x4.2 a0 7 = true then (f_X7_bad x4.2 a0 (3 : Int32)).bind fun x16 => if x16.1 = 0 ∨ x16.1 = 1 then some ((x16.1, x16.2)) else none else none)) else none else none
set_option maxHeartbeats 4000000 in
set_option maxRecDepth 100000 in
theorem t_X7_readHole {g : GT} {l : Launch} {h : Hp} {a0 : Nat} {r : (Int32 × Hp)} (hf : f_X7_readHole h a0 = some r) : PM g l 4 0 0 yX7_readHole wsX7_readHole [.ref a0] h (fun r9 h9 => r9 = some (.int r.1) ∧ h9 = r.2) := by
  refine pm_of (M := m_X7_readHole) (by decide) rfl rfl rfl (Nat.le_of_ble_eq_true rfl) (lo := [some (.ref a0)]) rfl ?_
  rw [f_X7_readHole] at hf
  refine pw_aload_n dX7_readHole_0 rfl ?_
  refine q_callV_v (kc2 := 0) (ks2 := 0) (as := []) (rest := []) hf (fun x9 e9 => t_X7_goes e9) gX7_readHole_X7_goes rfl hd9_X7_goes rfl rfl ⟨(by decide), by decide⟩ ⟨rfl, rfl⟩ (Nat.le_of_ble_eq_true rfl) dX7_readHole_1 rfl (fun h1 hf => ?_)
  refine pw_aload_n dX7_readHole_4 rfl ?_
  refine pw_iconst (v := (1)) dX7_readHole_5 (by decide) ?_
  refine pw_aload_n dX7_readHole_6 rfl ?_
  refine q_gR hf rfl (by decide) w9_X7_readHole_X7 (by decide +kernel) dX7_readHole_7 (fun x2 hf => ?_)
  refine pw_iconst (v := (0)) dX7_readHole_10 (by decide) ?_
  refine q_iald hf dX7_readHole_11 (fun x3 hf => ?_)
  refine q_callV_iw (kc2 := 0) (ks2 := 0) (as := [.int (1 : Int32), .int x3]) (rest := []) hf (fun x9 e9 => t_X7_isNumber e9) gX7_readHole_X7_isNumber rfl hd9_X7_isNumber rfl rfl ⟨(by decide), by decide⟩ ⟨rfl, rfl⟩ (Nat.le_of_ble_eq_true rfl) dX7_readHole_12 rfl (fun x4 hf => ?_)
  refine q_if_ne (tgt := 20) hf dX7_readHole_15 (by decide) (fun hf _ => ?_) (fun hf _ => ?_)
  · refine pw_aload_n dX7_readHole_20 rfl ?_
    refine q_gR hf rfl (by decide) w9_X7_readHole_X7 (by decide +kernel) dX7_readHole_21 (fun x5 hf => ?_)
    refine pw_iconst (v := (1)) dX7_readHole_24 (by decide) ?_
    refine q_iald hf dX7_readHole_25 (fun x6 hf => ?_)
    refine pw_aload_n dX7_readHole_26 rfl ?_
    refine q_gR hf rfl (by decide) w9_X7_readHole_X7 (by decide +kernel) dX7_readHole_27 (fun x7 hf => ?_)
    refine pw_iconst (v := (0)) dX7_readHole_30 (by decide) ?_
    refine q_callS_i (kc2 := 0) (ks2 := 0) (as := [.ref x7, .int (0 : Int32)]) (rest := [.int x6]) hf (fun x9 e9 => t_X7_pins e9) gX7_readHole_X7_pins rfl hd9_X7_pins rfl ⟨(by decide), by decide⟩ ⟨rfl, rfl⟩ (Nat.le_of_ble_eq_true rfl) dX7_readHole_31 rfl (fun x8 hf => ?_)
    refine pw_ior dX7_readHole_34 ?_
    refine pw_aload_n dX7_readHole_35 rfl ?_
    refine q_gI hf rfl (by decide) w9_X7_readHole_X7 (by decide +kernel) dX7_readHole_36 (fun x9 hf => ?_)
    refine pw_iconst (v := (1)) dX7_readHole_39 (by decide) ?_
    refine pw_isub dX7_readHole_40 ?_
    refine q_callS_i (kc2 := 0) (ks2 := 0) (as := [.int (x6 ||| x8), .int (x9 - (1 : Int32))]) (rest := []) hf (fun x9 e9 => t_X7_has e9) gX7_readHole_X7_has rfl hd9_X7_has rfl ⟨(by decide), by decide⟩ ⟨rfl, rfl⟩ (Nat.le_of_ble_eq_true rfl) dX7_readHole_41 rfl (fun x10 hf => ?_)
    refine q_if_eq (tgt := 53) hf dX7_readHole_44 (by decide) (fun hf _ => ?_) (fun hf _ => ?_)
    · refine pw_aload_n dX7_readHole_53 rfl ?_
      refine q_gR hf rfl (by decide) w9_X7_readHole_X7 (by decide +kernel) dX7_readHole_54 (fun x11 hf => ?_)
      refine pw_iconst (v := (1)) dX7_readHole_57 (by decide) ?_
      refine pw_dup2 dX7_readHole_58 ⟨rfl, rfl⟩ ?_
      refine q_iald hf dX7_readHole_59 (fun x12 hf => ?_)
      refine pw_iconst (v := (1)) dX7_readHole_60 (by decide) ?_
      refine pw_aload_n dX7_readHole_61 rfl ?_
      refine q_gI hf rfl (by decide) w9_X7_readHole_X7 (by decide +kernel) dX7_readHole_62 (fun x13 hf => ?_)
      refine pw_iconst (v := (1)) dX7_readHole_65 (by decide) ?_
      refine pw_isub dX7_readHole_66 ?_
      refine pw_ishl dX7_readHole_67 ?_
      refine pw_ior dX7_readHole_68 ?_
      refine q_iast hf dX7_readHole_69 (fun h14 hf => ?_)
      refine pw_aload_n dX7_readHole_70 rfl ?_
      refine q_callV_v (kc2 := 0) (ks2 := 0) (as := []) (rest := []) hf (fun x9 e9 => t_X7_goes e9) gX7_readHole_X7_goes rfl hd9_X7_goes rfl rfl ⟨(by decide), by decide⟩ ⟨rfl, rfl⟩ (Nat.le_of_ble_eq_true rfl) dX7_readHole_71 rfl (fun h15 hf => ?_)
      refine pw_iconst (v := (1)) dX7_readHole_74 (by decide) ?_
      exact pw_iret (x := (1 : Int32)) rfl rfl dX7_readHole_75 (ret_iw hf)
    · refine pw_aload_n dX7_readHole_47 rfl ?_
      refine pw_iconst (v := (3)) dX7_readHole_48 (by decide) ?_
      refine q_callV_iw (kc2 := 0) (ks2 := 0) (as := [.int (3 : Int32)]) (rest := []) hf (fun x9 e9 => t_X7_bad e9) gX7_readHole_X7_bad rfl hd9_X7_bad rfl rfl ⟨(by decide), by decide⟩ ⟨rfl, rfl⟩ (Nat.le_of_ble_eq_true rfl) dX7_readHole_49 rfl (fun x16 hf => ?_)
      obtain ⟨hb9, hf⟩ := iteN hf
      exact pw_iret (x := x16.1) rfl (narZ hb9) dX7_readHole_52 (ret_iw hf)
  · refine pw_iconst (v := (0)) dX7_readHole_18 (by decide) ?_
    exact pw_iret (x := (0 : Int32)) rfl rfl dX7_readHole_19 (ret_iw hf)
/-! X7_readPair -/
abbrev m_X7_readPair : MD := (cX7_readPair, RX7, "readPair", wsX7_readPair, 3, (some .boolean))
theorem w9_X7_readPair_X7 : ∀ w ∈ u_ws RX7 TX7 31, w ∈ wsX7_readPair := by decide +kernel
theorem hd9_X7_readPair : yX7_readPair.cls = RX7 ∧ yX7_readPair.cls ≠ "java/lang/invoke/MethodHandle" ∧ yX7_readPair.cls ≠ "java/lang/invoke/VarHandle" ∧ (parseMethodDescriptor yX7_readPair.desc).map (fun d => d.parameters.length) = some 0 := by decide +kernel
def f_X7_readPair (h : Hp) (a0 : Nat) : Option (Int32 × Hp) := (gR h a0 7 12).bind fun x1 => (aI h 0 x1 (2 : Int32)).bind fun x2 => (f_X7_bits h x2).bind fun x3 => if x3 = (9 : Int32) then (if oK h a0 7 = true then (f_X7_bad h a0 (4 : Int32)).bind fun x31 => if x31.1 = 0 ∨ x31.1 = 1 then some ((x31.1, x31.2)) else none else none) else (if oK h a0 7 = true then (f_X7_goes h a0).bind fun h4 => if oK h4 a0 7 = true then (f_X7_isNumber h4 a0 (1 : Int32) (15 : Int32)).bind fun x5 => if x5.1 = 0 then (some (((0 : Int32), x5.2))) else ((gI x5.2 a0 7 7).bind fun x6 => (gR x5.2 a0 7 12).bind fun x7 => (f_X7_isTold x5.2 x7 x6).bind fun x8 => if x8 = 0 then (if oK x5.2 a0 7 = true then (f_X7_goes x5.2 a0).bind fun h9 => if oK h9 a0 7 = true then (f_X7_isAt h9 a0).bind fun x10 => if x10 = 0 then ((gR h9 a0 7 12).bind fun x11 => (aI h9 0 x11 (2 : Int32)).bind fun x12 => (sI h9 0 x11 (2 : Int32) (x12 ||| ((1 : Int32) <<< ((x6 - (1 : Int32)) &&& 31)))).bind fun h13 => (gR h13 a0 7 12).bind fun x14 => (sI h13 0 x14 ((3 : Int32) + x6) (0 : Int32)).bind fun h15 => some (((1 : Int32), h15))) else (if oK h9 a0 7 = true then (f_X7_goes h9 a0).bind fun h16 => (gR h16 a0 7 12).bind fun x17 => (aI h16 0 x17 (0 : Int32)).bind fun x18 => if oK h16 a0 7 = true then (f_X7_isNumber h16 a0 (1 : Int32) (x18 - x6)).bind fun x19 => if x19.1 = 0 then (some (((0 : Int32), x19.2))) else ((gI x19.2 a0 7 7).bind fun x20 => (gR x19.2 a0 7 12).bind fun x21 => (f_X7_mayPin x19.2 x21 x6 x20).bind fun x22 => if x22 = 0 then (if oK x19.2 a0 7 = true then (f_X7_bad x19.2 a0 (3 : Int32)).bind fun x29 => if x29.1 = 0 ∨ x29.1 = 1 then some ((x29.1, x29.2)) else none else none) else (if oK x19.2 a0 7 = true then (f_X7_goes x19.2 a0).bind fun h23 => (gR h23 a0 7 12).bind fun x24 => (aI h23 0 x24 (2 : Int32)).bind fun x25 => (sI h23 0 x24 (2 : Int32) (x25 ||| ((1 : Int32) <<< ((x6 - (1 : Int32)) &&& 31)))).bind fun h26 => (gR h26 a0 7 12).bind fun x27 => (sI h26 0 x27 ((3 : Int32) + x6) x20).bind fun h28 => some (((1 : Int32), h28)) else none)) else none else none) else none else none) else (if oK x5.2 a0 7 = true then (f_X7_bad x5.2 a0 (3 : Int32)).bind fun x30 => if x30.1 = 0 ∨ x30.1 = 1 then some ((x30.1, x30.2)) else none else none)) else none else none)
set_option maxHeartbeats 4000000 in
set_option maxRecDepth 100000 in
theorem t_X7_readPair {g : GT} {l : Launch} {h : Hp} {a0 : Nat} {r : (Int32 × Hp)} (hf : f_X7_readPair h a0 = some r) : PM g l 5 0 0 yX7_readPair wsX7_readPair [.ref a0] h (fun r9 h9 => r9 = some (.int r.1) ∧ h9 = r.2) := by
  refine pm_of (M := m_X7_readPair) (by decide) rfl rfl rfl (Nat.le_of_ble_eq_true rfl) (lo := [some (.ref a0), none, none]) rfl ?_
  rw [f_X7_readPair] at hf
  refine pw_aload_n dX7_readPair_0 rfl ?_
  refine q_gR hf rfl (by decide) w9_X7_readPair_X7 (by decide +kernel) dX7_readPair_1 (fun x1 hf => ?_)
  refine pw_iconst (v := (2)) dX7_readPair_4 (by decide) ?_
  refine q_iald hf dX7_readPair_5 (fun x2 hf => ?_)
  refine q_callS_i (kc2 := 0) (ks2 := 0) (as := [.int x2]) (rest := []) hf (fun x9 e9 => t_X7_bits e9) gX7_readPair_X7_bits rfl hd9_X7_bits rfl ⟨(by decide), by decide⟩ ⟨rfl, rfl⟩ (Nat.le_of_ble_eq_true rfl) dX7_readPair_6 rfl (fun x3 hf => ?_)
  refine pw_bipush (v := (9)) dX7_readPair_9 (by decide) ?_
  refine q_icmp_ne (tgt := 20) hf dX7_readPair_11 (by decide) (fun hf _ => ?_) (fun hf _ => ?_)
  · refine pw_aload_n dX7_readPair_20 rfl ?_
    refine q_callV_v (kc2 := 0) (ks2 := 0) (as := []) (rest := []) hf (fun x9 e9 => t_X7_goes e9) gX7_readPair_X7_goes rfl hd9_X7_goes rfl rfl ⟨(by decide), by decide⟩ ⟨rfl, rfl⟩ (Nat.le_of_ble_eq_true rfl) dX7_readPair_21 rfl (fun h4 hf => ?_)
    refine pw_aload_n dX7_readPair_24 rfl ?_
    refine pw_iconst (v := (1)) dX7_readPair_25 (by decide) ?_
    refine pw_bipush (v := (15)) dX7_readPair_26 (by decide) ?_
    refine q_callV_iw (kc2 := 0) (ks2 := 0) (as := [.int (1 : Int32), .int (15 : Int32)]) (rest := []) hf (fun x9 e9 => t_X7_isNumber e9) gX7_readPair_X7_isNumber rfl hd9_X7_isNumber rfl rfl ⟨(by decide), by decide⟩ ⟨rfl, rfl⟩ (Nat.le_of_ble_eq_true rfl) dX7_readPair_28 rfl (fun x5 hf => ?_)
    refine q_if_ne (tgt := 36) hf dX7_readPair_31 (by decide) (fun hf _ => ?_) (fun hf _ => ?_)
    · refine pw_aload_n dX7_readPair_36 rfl ?_
      refine q_gI hf rfl (by decide) w9_X7_readPair_X7 (by decide +kernel) dX7_readPair_37 (fun x6 hf => ?_)
      refine pw_istore_n dX7_readPair_40 (by decide) rfl ?_
      dsimp only [lset, lset2, clr]
      refine pw_aload_n dX7_readPair_41 rfl ?_
      refine q_gR hf rfl (by decide) w9_X7_readPair_X7 (by decide +kernel) dX7_readPair_42 (fun x7 hf => ?_)
      refine pw_iload_n dX7_readPair_45 rfl ?_
      refine q_callS_i (kc2 := 0) (ks2 := 0) (as := [.ref x7, .int x6]) (rest := []) hf (fun x9 e9 => t_X7_isTold e9) gX7_readPair_X7_isTold rfl hd9_X7_isTold rfl ⟨(by decide), by decide⟩ ⟨rfl, rfl⟩ (Nat.le_of_ble_eq_true rfl) dX7_readPair_46 rfl (fun x8 hf => ?_)
      refine q_if_eq (tgt := 58) hf dX7_readPair_49 (by decide) (fun hf _ => ?_) (fun hf _ => ?_)
      · refine pw_aload_n dX7_readPair_58 rfl ?_
        refine q_callV_v (kc2 := 0) (ks2 := 0) (as := []) (rest := []) hf (fun x9 e9 => t_X7_goes e9) gX7_readPair_X7_goes rfl hd9_X7_goes rfl rfl ⟨(by decide), by decide⟩ ⟨rfl, rfl⟩ (Nat.le_of_ble_eq_true rfl) dX7_readPair_59 rfl (fun h9 hf => ?_)
        refine pw_iconst (v := (0)) dX7_readPair_62 (by decide) ?_
        refine pw_istore_n dX7_readPair_63 (by decide) rfl ?_
        dsimp only [lset, lset2, clr]
        refine pw_aload_n dX7_readPair_64 rfl ?_
        refine q_callV_i (kc2 := 0) (ks2 := 0) (as := []) (rest := []) hf (fun x9 e9 => t_X7_isAt e9) gX7_readPair_X7_isAt rfl hd9_X7_isAt rfl rfl ⟨(by decide), by decide⟩ ⟨rfl, rfl⟩ (Nat.le_of_ble_eq_true rfl) dX7_readPair_65 rfl (fun x10 hf => ?_)
        refine q_if_eq (tgt := 120) hf dX7_readPair_68 (by decide) (fun hf _ => ?_) (fun hf _ => ?_)
        · refine pw_aload_n dX7_readPair_120 rfl ?_
          refine q_gR hf rfl (by decide) w9_X7_readPair_X7 (by decide +kernel) dX7_readPair_121 (fun x11 hf => ?_)
          refine pw_iconst (v := (2)) dX7_readPair_124 (by decide) ?_
          refine pw_dup2 dX7_readPair_125 ⟨rfl, rfl⟩ ?_
          refine q_iald hf dX7_readPair_126 (fun x12 hf => ?_)
          refine pw_iconst (v := (1)) dX7_readPair_127 (by decide) ?_
          refine pw_iload_n dX7_readPair_128 rfl ?_
          refine pw_iconst (v := (1)) dX7_readPair_129 (by decide) ?_
          refine pw_isub dX7_readPair_130 ?_
          refine pw_ishl dX7_readPair_131 ?_
          refine pw_ior dX7_readPair_132 ?_
          refine q_iast hf dX7_readPair_133 (fun h13 hf => ?_)
          refine pw_aload_n dX7_readPair_134 rfl ?_
          refine q_gR hf rfl (by decide) w9_X7_readPair_X7 (by decide +kernel) dX7_readPair_135 (fun x14 hf => ?_)
          refine pw_iconst (v := (3)) dX7_readPair_138 (by decide) ?_
          refine pw_iload_n dX7_readPair_139 rfl ?_
          refine pw_iadd dX7_readPair_140 ?_
          refine pw_iload_n dX7_readPair_141 rfl ?_
          refine q_iast hf dX7_readPair_142 (fun h15 hf => ?_)
          refine pw_iconst (v := (1)) dX7_readPair_143 (by decide) ?_
          exact pw_iret (x := (1 : Int32)) rfl rfl dX7_readPair_144 (ret_iw hf)
        · refine pw_aload_n dX7_readPair_71 rfl ?_
          refine q_callV_v (kc2 := 0) (ks2 := 0) (as := []) (rest := []) hf (fun x9 e9 => t_X7_goes e9) gX7_readPair_X7_goes rfl hd9_X7_goes rfl rfl ⟨(by decide), by decide⟩ ⟨rfl, rfl⟩ (Nat.le_of_ble_eq_true rfl) dX7_readPair_72 rfl (fun h16 hf => ?_)
          refine pw_aload_n dX7_readPair_75 rfl ?_
          refine pw_iconst (v := (1)) dX7_readPair_76 (by decide) ?_
          refine pw_aload_n dX7_readPair_77 rfl ?_
          refine q_gR hf rfl (by decide) w9_X7_readPair_X7 (by decide +kernel) dX7_readPair_78 (fun x17 hf => ?_)
          refine pw_iconst (v := (0)) dX7_readPair_81 (by decide) ?_
          refine q_iald hf dX7_readPair_82 (fun x18 hf => ?_)
          refine pw_iload_n dX7_readPair_83 rfl ?_
          refine pw_isub dX7_readPair_84 ?_
          refine q_callV_iw (kc2 := 0) (ks2 := 0) (as := [.int (1 : Int32), .int (x18 - x6)]) (rest := []) hf (fun x9 e9 => t_X7_isNumber e9) gX7_readPair_X7_isNumber rfl hd9_X7_isNumber rfl rfl ⟨(by decide), by decide⟩ ⟨rfl, rfl⟩ (Nat.le_of_ble_eq_true rfl) dX7_readPair_85 rfl (fun x19 hf => ?_)
          refine q_if_ne (tgt := 93) hf dX7_readPair_88 (by decide) (fun hf _ => ?_) (fun hf _ => ?_)
          · refine pw_aload_n dX7_readPair_93 rfl ?_
            refine q_gI hf rfl (by decide) w9_X7_readPair_X7 (by decide +kernel) dX7_readPair_94 (fun x20 hf => ?_)
            refine pw_istore_n dX7_readPair_97 (by decide) rfl ?_
            dsimp only [lset, lset2, clr]
            refine pw_aload_n dX7_readPair_98 rfl ?_
            refine q_gR hf rfl (by decide) w9_X7_readPair_X7 (by decide +kernel) dX7_readPair_99 (fun x21 hf => ?_)
            refine pw_iload_n dX7_readPair_102 rfl ?_
            refine pw_iload_n dX7_readPair_103 rfl ?_
            refine q_callS_i (kc2 := 0) (ks2 := 0) (as := [.ref x21, .int x6, .int x20]) (rest := []) hf (fun x9 e9 => t_X7_mayPin e9) gX7_readPair_X7_mayPin rfl hd9_X7_mayPin rfl ⟨(by decide), by decide⟩ ⟨rfl, rfl⟩ (Nat.le_of_ble_eq_true rfl) dX7_readPair_104 rfl (fun x22 hf => ?_)
            refine q_if_ne (tgt := 116) hf dX7_readPair_107 (by decide) (fun hf _ => ?_) (fun hf _ => ?_)
            · refine pw_aload_n dX7_readPair_116 rfl ?_
              refine q_callV_v (kc2 := 0) (ks2 := 0) (as := []) (rest := []) hf (fun x9 e9 => t_X7_goes e9) gX7_readPair_X7_goes rfl hd9_X7_goes rfl rfl ⟨(by decide), by decide⟩ ⟨rfl, rfl⟩ (Nat.le_of_ble_eq_true rfl) dX7_readPair_117 rfl (fun h23 hf => ?_)
              refine pw_aload_n dX7_readPair_120 rfl ?_
              refine q_gR hf rfl (by decide) w9_X7_readPair_X7 (by decide +kernel) dX7_readPair_121 (fun x24 hf => ?_)
              refine pw_iconst (v := (2)) dX7_readPair_124 (by decide) ?_
              refine pw_dup2 dX7_readPair_125 ⟨rfl, rfl⟩ ?_
              refine q_iald hf dX7_readPair_126 (fun x25 hf => ?_)
              refine pw_iconst (v := (1)) dX7_readPair_127 (by decide) ?_
              refine pw_iload_n dX7_readPair_128 rfl ?_
              refine pw_iconst (v := (1)) dX7_readPair_129 (by decide) ?_
              refine pw_isub dX7_readPair_130 ?_
              refine pw_ishl dX7_readPair_131 ?_
              refine pw_ior dX7_readPair_132 ?_
              refine q_iast hf dX7_readPair_133 (fun h26 hf => ?_)
              refine pw_aload_n dX7_readPair_134 rfl ?_
              refine q_gR hf rfl (by decide) w9_X7_readPair_X7 (by decide +kernel) dX7_readPair_135 (fun x27 hf => ?_)
              refine pw_iconst (v := (3)) dX7_readPair_138 (by decide) ?_
              refine pw_iload_n dX7_readPair_139 rfl ?_
              refine pw_iadd dX7_readPair_140 ?_
              refine pw_iload_n dX7_readPair_141 rfl ?_
              refine q_iast hf dX7_readPair_142 (fun h28 hf => ?_)
              refine pw_iconst (v := (1)) dX7_readPair_143 (by decide) ?_
              exact pw_iret (x := (1 : Int32)) rfl rfl dX7_readPair_144 (ret_iw hf)
            · refine pw_aload_n dX7_readPair_110 rfl ?_
              refine pw_iconst (v := (3)) dX7_readPair_111 (by decide) ?_
              refine q_callV_iw (kc2 := 0) (ks2 := 0) (as := [.int (3 : Int32)]) (rest := []) hf (fun x9 e9 => t_X7_bad e9) gX7_readPair_X7_bad rfl hd9_X7_bad rfl rfl ⟨(by decide), by decide⟩ ⟨rfl, rfl⟩ (Nat.le_of_ble_eq_true rfl) dX7_readPair_112 rfl (fun x29 hf => ?_)
              obtain ⟨hb9, hf⟩ := iteN hf
              exact pw_iret (x := x29.1) rfl (narZ hb9) dX7_readPair_115 (ret_iw hf)
          · refine pw_iconst (v := (0)) dX7_readPair_91 (by decide) ?_
            exact pw_iret (x := (0 : Int32)) rfl rfl dX7_readPair_92 (ret_iw hf)
      · refine pw_aload_n dX7_readPair_52 rfl ?_
        refine pw_iconst (v := (3)) dX7_readPair_53 (by decide) ?_
        refine q_callV_iw (kc2 := 0) (ks2 := 0) (as := [.int (3 : Int32)]) (rest := []) hf (fun x9 e9 => t_X7_bad e9) gX7_readPair_X7_bad rfl hd9_X7_bad rfl rfl ⟨(by decide), by decide⟩ ⟨rfl, rfl⟩ (Nat.le_of_ble_eq_true rfl) dX7_readPair_54 rfl (fun x30 hf => ?_)
        obtain ⟨hb9, hf⟩ := iteN hf
        exact pw_iret (x := x30.1) rfl (narZ hb9) dX7_readPair_57 (ret_iw hf)
    · refine pw_iconst (v := (0)) dX7_readPair_34 (by decide) ?_
      exact pw_iret (x := (0 : Int32)) rfl rfl dX7_readPair_35 (ret_iw hf)
  · refine pw_aload_n dX7_readPair_14 rfl ?_
    refine pw_iconst (v := (4)) dX7_readPair_15 (by decide) ?_
    refine q_callV_iw (kc2 := 0) (ks2 := 0) (as := [.int (4 : Int32)]) (rest := []) hf (fun x9 e9 => t_X7_bad e9) gX7_readPair_X7_bad rfl hd9_X7_bad rfl rfl ⟨(by decide), by decide⟩ ⟨rfl, rfl⟩ (Nat.le_of_ble_eq_true rfl) dX7_readPair_16 rfl (fun x31 hf => ?_)
    obtain ⟨hb9, hf⟩ := iteN hf
    exact pw_iret (x := x31.1) rfl (narZ hb9) dX7_readPair_19 (ret_iw hf)
/-! X7_readCells -/
abbrev m_X7_readCells : MD := (cX7_readCells, RX7, "readCells", wsX7_readCells, 1, (some .boolean))
theorem w9_X7_readCells_X7 : ∀ w ∈ u_ws RX7 TX7 31, w ∈ wsX7_readCells := by decide +kernel
theorem hd9_X7_readCells : yX7_readCells.cls = RX7 ∧ yX7_readCells.cls ≠ "java/lang/invoke/MethodHandle" ∧ yX7_readCells.cls ≠ "java/lang/invoke/VarHandle" ∧ (parseMethodDescriptor yX7_readCells.desc).map (fun d => d.parameters.length) = some 0 := by decide +kernel
def f_X7_readCells (h : Hp) (a0 : Nat) : Option (Int32 × Hp) := if oK h a0 7 = true then (f_X7_goes h a0).bind fun h1 => if oK h1 a0 7 = true then (f_X7_isNumber h1 a0 (1 : Int32) (18 : Int32)).bind fun x2 => if x2.1 = 0 then (some (((0 : Int32), x2.2))) else ((gR x2.2 a0 7 12).bind fun x3 => (gI x2.2 a0 7 7).bind fun x4 => (sI x2.2 0 x3 (0 : Int32) x4).bind fun h5 => if oK h5 a0 7 = true then (f_X7_goes h5 a0).bind fun h6 => some (((1 : Int32), h6)) else none) else none else none
set_option maxHeartbeats 4000000 in
set_option maxRecDepth 100000 in
theorem t_X7_readCells {g : GT} {l : Launch} {h : Hp} {a0 : Nat} {r : (Int32 × Hp)} (hf : f_X7_readCells h a0 = some r) : PM g l 3 0 0 yX7_readCells wsX7_readCells [.ref a0] h (fun r9 h9 => r9 = some (.int r.1) ∧ h9 = r.2) := by
  refine pm_of (M := m_X7_readCells) (by decide) rfl rfl rfl (Nat.le_of_ble_eq_true rfl) (lo := [some (.ref a0)]) rfl ?_
  rw [f_X7_readCells] at hf
  refine pw_aload_n dX7_readCells_0 rfl ?_
  refine q_callV_v (kc2 := 0) (ks2 := 0) (as := []) (rest := []) hf (fun x9 e9 => t_X7_goes e9) gX7_readCells_X7_goes rfl hd9_X7_goes rfl rfl ⟨(by decide), by decide⟩ ⟨rfl, rfl⟩ (Nat.le_of_ble_eq_true rfl) dX7_readCells_1 rfl (fun h1 hf => ?_)
  refine pw_aload_n dX7_readCells_4 rfl ?_
  refine pw_iconst (v := (1)) dX7_readCells_5 (by decide) ?_
  refine pw_bipush (v := (18)) dX7_readCells_6 (by decide) ?_
  refine q_callV_iw (kc2 := 0) (ks2 := 0) (as := [.int (1 : Int32), .int (18 : Int32)]) (rest := []) hf (fun x9 e9 => t_X7_isNumber e9) gX7_readCells_X7_isNumber rfl hd9_X7_isNumber rfl rfl ⟨(by decide), by decide⟩ ⟨rfl, rfl⟩ (Nat.le_of_ble_eq_true rfl) dX7_readCells_8 rfl (fun x2 hf => ?_)
  refine q_if_ne (tgt := 16) hf dX7_readCells_11 (by decide) (fun hf _ => ?_) (fun hf _ => ?_)
  · refine pw_aload_n dX7_readCells_16 rfl ?_
    refine q_gR hf rfl (by decide) w9_X7_readCells_X7 (by decide +kernel) dX7_readCells_17 (fun x3 hf => ?_)
    refine pw_iconst (v := (0)) dX7_readCells_20 (by decide) ?_
    refine pw_aload_n dX7_readCells_21 rfl ?_
    refine q_gI hf rfl (by decide) w9_X7_readCells_X7 (by decide +kernel) dX7_readCells_22 (fun x4 hf => ?_)
    refine q_iast hf dX7_readCells_25 (fun h5 hf => ?_)
    refine pw_aload_n dX7_readCells_26 rfl ?_
    refine q_callV_v (kc2 := 0) (ks2 := 0) (as := []) (rest := []) hf (fun x9 e9 => t_X7_goes e9) gX7_readCells_X7_goes rfl hd9_X7_goes rfl rfl ⟨(by decide), by decide⟩ ⟨rfl, rfl⟩ (Nat.le_of_ble_eq_true rfl) dX7_readCells_27 rfl (fun h6 hf => ?_)
    refine pw_iconst (v := (1)) dX7_readCells_30 (by decide) ?_
    exact pw_iret (x := (1 : Int32)) rfl rfl dX7_readCells_31 (ret_iw hf)
  · refine pw_iconst (v := (0)) dX7_readCells_14 (by decide) ?_
    exact pw_iret (x := (0 : Int32)) rfl rfl dX7_readCells_15 (ret_iw hf)
/-! X7_readRow -/
abbrev m_X7_readRow : MD := (cX7_readRow, RX7, "readRow", wsX7_readRow, 1, (some .boolean))
theorem w9_X7_readRow_X7 : ∀ w ∈ u_ws RX7 TX7 31, w ∈ wsX7_readRow := by decide +kernel
theorem hd9_X7_readRow : yX7_readRow.cls = RX7 ∧ yX7_readRow.cls ≠ "java/lang/invoke/MethodHandle" ∧ yX7_readRow.cls ≠ "java/lang/invoke/VarHandle" ∧ (parseMethodDescriptor yX7_readRow.desc).map (fun d => d.parameters.length) = some 0 := by decide +kernel
def f_X7_readRow (h : Hp) (a0 : Nat) : Option (Int32 × Hp) := (gR h a0 7 12).bind fun x1 => (aI h 0 x1 (0 : Int32)).bind fun x2 => if x2 = 0 then (if oK h a0 7 = true then (f_X7_isCells h a0).bind fun x8 => if x8 = 0 then (if oK h a0 7 = true then (f_X7_bad h a0 (1 : Int32)).bind fun x9 => if x9.1 = 0 ∨ x9.1 = 1 then some ((x9.1, x9.2)) else none else none) else (if oK h a0 7 = true then (f_X7_readCells h a0).bind fun x10 => if x10.1 = 0 ∨ x10.1 = 1 then some ((x10.1, x10.2)) else none else none) else none) else (if oK h a0 7 = true then (f_X7_isHole h a0).bind fun x3 => if x3 = 0 then (if oK h a0 7 = true then (f_X7_isPair h a0).bind fun x4 => if x4 = 0 then (if oK h a0 7 = true then (f_X7_bad h a0 (1 : Int32)).bind fun x5 => if x5.1 = 0 ∨ x5.1 = 1 then some ((x5.1, x5.2)) else none else none) else (if oK h a0 7 = true then (f_X7_readPair h a0).bind fun x6 => if x6.1 = 0 ∨ x6.1 = 1 then some ((x6.1, x6.2)) else none else none) else none) else (if oK h a0 7 = true then (f_X7_readHole h a0).bind fun x7 => if x7.1 = 0 ∨ x7.1 = 1 then some ((x7.1, x7.2)) else none else none) else none)
set_option maxHeartbeats 4000000 in
set_option maxRecDepth 100000 in
theorem t_X7_readRow {g : GT} {l : Launch} {h : Hp} {a0 : Nat} {r : (Int32 × Hp)} (hf : f_X7_readRow h a0 = some r) : PM g l 6 0 0 yX7_readRow wsX7_readRow [.ref a0] h (fun r9 h9 => r9 = some (.int r.1) ∧ h9 = r.2) := by
  refine pm_of (M := m_X7_readRow) (by decide) rfl rfl rfl (Nat.le_of_ble_eq_true rfl) (lo := [some (.ref a0)]) rfl ?_
  rw [f_X7_readRow] at hf
  refine pw_aload_n dX7_readRow_0 rfl ?_
  refine q_gR hf rfl (by decide) w9_X7_readRow_X7 (by decide +kernel) dX7_readRow_1 (fun x1 hf => ?_)
  refine pw_iconst (v := (0)) dX7_readRow_4 (by decide) ?_
  refine q_iald hf dX7_readRow_5 (fun x2 hf => ?_)
  refine q_if_ne (tgt := 29) hf dX7_readRow_6 (by decide) (fun hf _ => ?_) (fun hf _ => ?_)
  · refine pw_aload_n dX7_readRow_29 rfl ?_
    refine q_callV_i (kc2 := 0) (ks2 := 0) (as := []) (rest := []) hf (fun x9 e9 => t_X7_isHole e9) gX7_readRow_X7_isHole rfl hd9_X7_isHole rfl rfl ⟨(by decide), by decide⟩ ⟨rfl, rfl⟩ (Nat.le_of_ble_eq_true rfl) dX7_readRow_30 rfl (fun x3 hf => ?_)
    refine q_if_eq (tgt := 43) hf dX7_readRow_33 (by decide) (fun hf _ => ?_) (fun hf _ => ?_)
    · refine pw_aload_n dX7_readRow_43 rfl ?_
      refine q_callV_i (kc2 := 0) (ks2 := 0) (as := []) (rest := []) hf (fun x9 e9 => t_X7_isPair e9) gX7_readRow_X7_isPair rfl hd9_X7_isPair rfl rfl ⟨(by decide), by decide⟩ ⟨rfl, rfl⟩ (Nat.le_of_ble_eq_true rfl) dX7_readRow_44 rfl (fun x4 hf => ?_)
      refine q_if_eq (tgt := 57) hf dX7_readRow_47 (by decide) (fun hf _ => ?_) (fun hf _ => ?_)
      · refine pw_aload_n dX7_readRow_57 rfl ?_
        refine pw_iconst (v := (1)) dX7_readRow_58 (by decide) ?_
        refine q_callV_iw (kc2 := 0) (ks2 := 0) (as := [.int (1 : Int32)]) (rest := []) hf (fun x9 e9 => t_X7_bad e9) gX7_readRow_X7_bad rfl hd9_X7_bad rfl rfl ⟨(by decide), by decide⟩ ⟨rfl, rfl⟩ (Nat.le_of_ble_eq_true rfl) dX7_readRow_59 rfl (fun x5 hf => ?_)
        obtain ⟨hb9, hf⟩ := iteN hf
        exact pw_iret (x := x5.1) rfl (narZ hb9) dX7_readRow_62 (ret_iw hf)
      · refine pw_aload_n dX7_readRow_50 rfl ?_
        refine q_callV_iw (kc2 := 0) (ks2 := 0) (as := []) (rest := []) hf (fun x9 e9 => t_X7_readPair e9) gX7_readRow_X7_readPair rfl hd9_X7_readPair rfl rfl ⟨(by decide), by decide⟩ ⟨rfl, rfl⟩ (Nat.le_of_ble_eq_true rfl) dX7_readRow_51 rfl (fun x6 hf => ?_)
        refine pw_goto (tgt := 62) dX7_readRow_54 (by decide) ?_
        obtain ⟨hb9, hf⟩ := iteN hf
        exact pw_iret (x := x6.1) rfl (narZ hb9) dX7_readRow_62 (ret_iw hf)
    · refine pw_aload_n dX7_readRow_36 rfl ?_
      refine q_callV_iw (kc2 := 0) (ks2 := 0) (as := []) (rest := []) hf (fun x9 e9 => t_X7_readHole e9) gX7_readRow_X7_readHole rfl hd9_X7_readHole rfl rfl ⟨(by decide), by decide⟩ ⟨rfl, rfl⟩ (Nat.le_of_ble_eq_true rfl) dX7_readRow_37 rfl (fun x7 hf => ?_)
      refine pw_goto (tgt := 62) dX7_readRow_40 (by decide) ?_
      obtain ⟨hb9, hf⟩ := iteN hf
      exact pw_iret (x := x7.1) rfl (narZ hb9) dX7_readRow_62 (ret_iw hf)
  · refine pw_aload_n dX7_readRow_9 rfl ?_
    refine q_callV_i (kc2 := 0) (ks2 := 0) (as := []) (rest := []) hf (fun x9 e9 => t_X7_isCells e9) gX7_readRow_X7_isCells rfl hd9_X7_isCells rfl rfl ⟨(by decide), by decide⟩ ⟨rfl, rfl⟩ (Nat.le_of_ble_eq_true rfl) dX7_readRow_10 rfl (fun x8 hf => ?_)
    refine q_if_eq (tgt := 23) hf dX7_readRow_13 (by decide) (fun hf _ => ?_) (fun hf _ => ?_)
    · refine pw_aload_n dX7_readRow_23 rfl ?_
      refine pw_iconst (v := (1)) dX7_readRow_24 (by decide) ?_
      refine q_callV_iw (kc2 := 0) (ks2 := 0) (as := [.int (1 : Int32)]) (rest := []) hf (fun x9 e9 => t_X7_bad e9) gX7_readRow_X7_bad rfl hd9_X7_bad rfl rfl ⟨(by decide), by decide⟩ ⟨rfl, rfl⟩ (Nat.le_of_ble_eq_true rfl) dX7_readRow_25 rfl (fun x9 hf => ?_)
      obtain ⟨hb9, hf⟩ := iteN hf
      exact pw_iret (x := x9.1) rfl (narZ hb9) dX7_readRow_28 (ret_iw hf)
    · refine pw_aload_n dX7_readRow_16 rfl ?_
      refine q_callV_iw (kc2 := 0) (ks2 := 0) (as := []) (rest := []) hf (fun x9 e9 => t_X7_readCells e9) gX7_readRow_X7_readCells rfl hd9_X7_readCells rfl rfl ⟨(by decide), by decide⟩ ⟨rfl, rfl⟩ (Nat.le_of_ble_eq_true rfl) dX7_readRow_17 rfl (fun x10 hf => ?_)
      refine pw_goto (tgt := 28) dX7_readRow_20 (by decide) ?_
      obtain ⟨hb9, hf⟩ := iteN hf
      exact pw_iret (x := x10.1) rfl (narZ hb9) dX7_readRow_28 (ret_iw hf)
/-! X7_readEnd -/
abbrev m_X7_readEnd : MD := (cX7_readEnd, RX7, "readEnd", wsX7_readEnd, 1, (some .boolean))
theorem w9_X7_readEnd_X7 : ∀ w ∈ u_ws RX7 TX7 31, w ∈ wsX7_readEnd := by decide +kernel
theorem hd9_X7_readEnd : yX7_readEnd.cls = RX7 ∧ yX7_readEnd.cls ≠ "java/lang/invoke/MethodHandle" ∧ yX7_readEnd.cls ≠ "java/lang/invoke/VarHandle" ∧ (parseMethodDescriptor yX7_readEnd.desc).map (fun d => d.parameters.length) = some 0 := by decide +kernel
def f_X7_readEnd (h : Hp) (a0 : Nat) : Option (Int32 × Hp) := (gI h a0 7 6).bind fun x1 => if x1 = (4 : Int32) then (if oK h a0 7 = true then (f_X7_goes h a0).bind fun h2 => some (((1 : Int32), h2)) else none) else (if oK h a0 7 = true then (f_X7_bad h a0 (1 : Int32)).bind fun x3 => if x3.1 = 0 ∨ x3.1 = 1 then some ((x3.1, x3.2)) else none else none)
set_option maxHeartbeats 4000000 in
set_option maxRecDepth 100000 in
theorem t_X7_readEnd {g : GT} {l : Launch} {h : Hp} {a0 : Nat} {r : (Int32 × Hp)} (hf : f_X7_readEnd h a0 = some r) : PM g l 3 0 0 yX7_readEnd wsX7_readEnd [.ref a0] h (fun r9 h9 => r9 = some (.int r.1) ∧ h9 = r.2) := by
  refine pm_of (M := m_X7_readEnd) (by decide) rfl rfl rfl (Nat.le_of_ble_eq_true rfl) (lo := [some (.ref a0)]) rfl ?_
  rw [f_X7_readEnd] at hf
  refine pw_aload_n dX7_readEnd_0 rfl ?_
  refine q_gI hf rfl (by decide) w9_X7_readEnd_X7 (by decide +kernel) dX7_readEnd_1 (fun x1 hf => ?_)
  refine pw_iconst (v := (4)) dX7_readEnd_4 (by decide) ?_
  refine q_icmp_eq (tgt := 14) hf dX7_readEnd_5 (by decide) (fun hf _ => ?_) (fun hf _ => ?_)
  · refine pw_aload_n dX7_readEnd_14 rfl ?_
    refine q_callV_v (kc2 := 0) (ks2 := 0) (as := []) (rest := []) hf (fun x9 e9 => t_X7_goes e9) gX7_readEnd_X7_goes rfl hd9_X7_goes rfl rfl ⟨(by decide), by decide⟩ ⟨rfl, rfl⟩ (Nat.le_of_ble_eq_true rfl) dX7_readEnd_15 rfl (fun h2 hf => ?_)
    refine pw_iconst (v := (1)) dX7_readEnd_18 (by decide) ?_
    exact pw_iret (x := (1 : Int32)) rfl rfl dX7_readEnd_19 (ret_iw hf)
  · refine pw_aload_n dX7_readEnd_8 rfl ?_
    refine pw_iconst (v := (1)) dX7_readEnd_9 (by decide) ?_
    refine q_callV_iw (kc2 := 0) (ks2 := 0) (as := [.int (1 : Int32)]) (rest := []) hf (fun x9 e9 => t_X7_bad e9) gX7_readEnd_X7_bad rfl hd9_X7_bad rfl rfl ⟨(by decide), by decide⟩ ⟨rfl, rfl⟩ (Nat.le_of_ble_eq_true rfl) dX7_readEnd_10 rfl (fun x3 hf => ?_)
    obtain ⟨hb9, hf⟩ := iteN hf
    exact pw_iret (x := x3.1) rfl (narZ hb9) dX7_readEnd_13 (ret_iw hf)
/-! X7_frame -/
abbrev m_X7_frame : MD := (cX7_frame, RX7, "frame", wsX7_frame, 3, (some .int))
theorem w9_X7_frame_X7 : ∀ w ∈ u_ws RX7 TX7 31, w ∈ wsX7_frame := by decide +kernel
theorem hd9_X7_frame : yX7_frame.cls = RX7 ∧ yX7_frame.cls ≠ "java/lang/invoke/MethodHandle" ∧ yX7_frame.cls ≠ "java/lang/invoke/VarHandle" ∧ (parseMethodDescriptor yX7_frame.desc).map (fun d => d.parameters.length) = some 0 := by decide +kernel
def f_X7_frame_55 : Nat → Nat → Int32 → Hp → Option (Int32 × Hp)
  | 0, _, _, _ => none
  | n + 1, v0, v1, h => (gI h v0 7 6).bind fun x1 => if x1 = 0 then ((gR h v0 7 12).bind fun x2 => (gR h v0 7 11).bind fun x3 => (f_X7_copy h x2 (0 : Int32) x3 (0 : Int32)).bind fun h4 => (pV h4 v0 7 19 (.int (0 : Int32))).bind fun h5 => some ((v1, h5))) else (if oK h v0 7 = true then (f_X7_readRow h v0).bind fun x6 => if x6.1 = 0 then ((gI x6.2 v0 7 9).bind fun x7 => some (((-1 : Int32) - x7, x6.2))) else (if oK x6.2 v0 7 = true then (f_X7_readEnd x6.2 v0).bind fun x8 => if x8.1 = 0 then ((gI x8.2 v0 7 9).bind fun x9 => some (((-1 : Int32) - x9, x8.2))) else (f_X7_frame_55 n v0 (v1 + (1)) x8.2) else none) else none)
set_option maxHeartbeats 4000000 in
set_option maxRecDepth 100000 in
theorem w_X7_frame_55 {g : GT} {l : Launch} {r : (Int32 × Hp)} : ∀ (n : Nat) (v0 : Nat) (v1 : Int32) (h : Hp), f_X7_frame_55 n v0 v1 h = some r → PW g l m_X7_frame 7 0 0 55 [some (.ref v0), some (.int v1), none] [] h (fun r9 h9 => r9 = some (.int r.1) ∧ h9 = r.2) := by
  intro n
  induction n with
  | zero => intro v0 v1 h hf; cases hf
  | succ n ih =>
    intro v0 v1 h hf
    rw [f_X7_frame_55] at hf
    refine pw_aload_n dX7_frame_55 rfl ?_
    refine q_gI hf rfl (by decide) w9_X7_frame_X7 (by decide +kernel) dX7_frame_56 (fun x1 hf => ?_)
    refine q_if_eq (tgt := 89) hf dX7_frame_59 (by decide) (fun hf _ => ?_) (fun hf _ => ?_)
    · refine pw_aload_n dX7_frame_89 rfl ?_
      refine q_gR hf rfl (by decide) w9_X7_frame_X7 (by decide +kernel) dX7_frame_90 (fun x2 hf => ?_)
      refine pw_iconst (v := (0)) dX7_frame_93 (by decide) ?_
      refine pw_aload_n dX7_frame_94 rfl ?_
      refine q_gR hf rfl (by decide) w9_X7_frame_X7 (by decide +kernel) dX7_frame_95 (fun x3 hf => ?_)
      refine pw_iconst (v := (0)) dX7_frame_98 (by decide) ?_
      refine q_callS_v (kc2 := 0) (ks2 := 0) (as := [.ref x2, .int (0 : Int32), .ref x3, .int (0 : Int32)]) (rest := []) hf (fun x9 e9 => t_X7_copy e9) gX7_frame_X7_copy rfl hd9_X7_copy rfl ⟨(by decide), by decide⟩ ⟨rfl, rfl⟩ (Nat.le_of_ble_eq_true rfl) dX7_frame_99 rfl (fun h4 hf => ?_)
      refine pw_aload_n dX7_frame_102 rfl ?_
      refine pw_iconst (v := (0)) dX7_frame_103 (by decide) ?_
      refine q_pV (ty := .int) hf tyX7 tyX7_ok nmX7 rfl (by decide) w9_X7_frame_X7 (by decide +kernel) rfl (by decide +kernel) rfl rfl dX7_frame_104 (fun h5 hf => ?_)
      refine pw_iload_n dX7_frame_107 rfl ?_
      exact pw_iret (x := v1) rfl rfl dX7_frame_108 (ret_iw hf)
    · refine pw_aload_n dX7_frame_62 rfl ?_
      refine q_callV_iw (kc2 := 0) (ks2 := 0) (as := []) (rest := []) hf (fun x9 e9 => t_X7_readRow e9) gX7_frame_X7_readRow rfl hd9_X7_readRow rfl rfl ⟨(by decide), by decide⟩ ⟨rfl, rfl⟩ (Nat.le_of_ble_eq_true rfl) dX7_frame_63 rfl (fun x6 hf => ?_)
      refine q_if_eq (tgt := 76) hf dX7_frame_66 (by decide) (fun hf _ => ?_) (fun hf _ => ?_)
      · refine pw_iconst (v := (-1)) dX7_frame_76 (by decide) ?_
        refine pw_aload_n dX7_frame_77 rfl ?_
        refine q_gI hf rfl (by decide) w9_X7_frame_X7 (by decide +kernel) dX7_frame_78 (fun x7 hf => ?_)
        refine pw_isub dX7_frame_81 ?_
        exact pw_iret (x := (-1 : Int32) - x7) rfl rfl dX7_frame_82 (ret_iw hf)
      · refine pw_aload_n dX7_frame_69 rfl ?_
        refine q_callV_iw (kc2 := 0) (ks2 := 0) (as := []) (rest := []) hf (fun x9 e9 => t_X7_readEnd e9) gX7_frame_X7_readEnd rfl hd9_X7_readEnd rfl rfl ⟨(by decide), by decide⟩ ⟨rfl, rfl⟩ (Nat.le_of_ble_eq_true rfl) dX7_frame_70 rfl (fun x8 hf => ?_)
        refine q_if_ne (tgt := 83) hf dX7_frame_73 (by decide) (fun hf _ => ?_) (fun hf _ => ?_)
        · refine pw_iinc (v := v1 + (1)) dX7_frame_83 rfl rfl (by decide) rfl ?_
          dsimp only [lset, lset2, clr]
          refine pw_goto (tgt := 55) dX7_frame_86 (by decide) ?_
          exact pw_lo (lle_s rfl (lle_s rfl (lle_n lle_0))) (ih _ _ _ hf)
        · refine pw_iconst (v := (-1)) dX7_frame_76 (by decide) ?_
          refine pw_aload_n dX7_frame_77 rfl ?_
          refine q_gI hf rfl (by decide) w9_X7_frame_X7 (by decide +kernel) dX7_frame_78 (fun x9 hf => ?_)
          refine pw_isub dX7_frame_81 ?_
          exact pw_iret (x := (-1 : Int32) - x9) rfl rfl dX7_frame_82 (ret_iw hf)
def f_X7_frame_32 : Nat → Nat → Int32 → Int32 → Hp → Option (Int32 × Hp)
  | 0, _, _, _, _ => none
  | n + 1, v0, v1, v2, h => if (19 : Int32) ≤ v2 then (if oK h v0 7 = true then (f_X7_goes h v0).bind fun h1 => f_X7_frame_55 4096 v0 v1 h1 else none) else ((gR h v0 7 12).bind fun x2 => (sI h 0 x2 v2 (0 : Int32)).bind fun h3 => f_X7_frame_32 n v0 v1 (v2 + (1)) h3)
set_option maxHeartbeats 4000000 in
set_option maxRecDepth 100000 in
theorem w_X7_frame_32 {g : GT} {l : Launch} {r : (Int32 × Hp)} : ∀ (n : Nat) (v0 : Nat) (v1 : Int32) (v2 : Int32) (h : Hp), f_X7_frame_32 n v0 v1 v2 h = some r → PW g l m_X7_frame 7 0 0 32 [some (.ref v0), some (.int v1), some (.int v2)] [] h (fun r9 h9 => r9 = some (.int r.1) ∧ h9 = r.2) := by
  intro n
  induction n with
  | zero => intro v0 v1 v2 h hf; cases hf
  | succ n ih =>
    intro v0 v1 v2 h hf
    rw [f_X7_frame_32] at hf
    refine pw_iload_n dX7_frame_32 rfl ?_
    refine pw_bipush (v := (19)) dX7_frame_33 (by decide) ?_
    refine q_icmp_ge (tgt := 51) hf dX7_frame_35 (by decide) (fun hf _ => ?_) (fun hf _ => ?_)
    · refine pw_aload_n dX7_frame_51 rfl ?_
      refine q_callV_v (kc2 := 0) (ks2 := 0) (as := []) (rest := []) hf (fun x9 e9 => t_X7_goes e9) gX7_frame_X7_goes rfl hd9_X7_goes rfl rfl ⟨(by decide), by decide⟩ ⟨rfl, rfl⟩ (Nat.le_of_ble_eq_true rfl) dX7_frame_52 rfl (fun h1 hf => ?_)
      exact pw_lo (lle_s rfl (lle_s rfl (lle_n lle_0))) (w_X7_frame_55 4096 _ _ _ hf)
    · refine pw_aload_n dX7_frame_38 rfl ?_
      refine q_gR hf rfl (by decide) w9_X7_frame_X7 (by decide +kernel) dX7_frame_39 (fun x2 hf => ?_)
      refine pw_iload_n dX7_frame_42 rfl ?_
      refine pw_iconst (v := (0)) dX7_frame_43 (by decide) ?_
      refine q_iast hf dX7_frame_44 (fun h3 hf => ?_)
      refine pw_iinc (v := v2 + (1)) dX7_frame_45 rfl rfl (by decide) rfl ?_
      dsimp only [lset, lset2, clr]
      refine pw_goto (tgt := 32) dX7_frame_48 (by decide) ?_
      exact pw_lo (lle_s rfl (lle_s rfl (lle_s rfl lle_0))) (ih _ _ _ _ hf)
def f_X7_frame (h : Hp) (a0 : Nat) : Option (Int32 × Hp) := (pV h a0 7 0 (.int (0 : Int32))).bind fun h1 => (gI h1 a0 7 2).bind fun x2 => (pV h1 a0 7 3 (.int x2)).bind fun h3 => (pV h3 a0 7 2 (.int (0 : Int32))).bind fun h4 => (pV h4 a0 7 8 (.int (0 : Int32))).bind fun h5 => (pV h5 a0 7 4 (.int (0 : Int32))).bind fun h6 => f_X7_frame_32 4096 a0 (0 : Int32) (0 : Int32) h6
set_option maxHeartbeats 4000000 in
set_option maxRecDepth 100000 in
theorem t_X7_frame {g : GT} {l : Launch} {h : Hp} {a0 : Nat} {r : (Int32 × Hp)} (hf : f_X7_frame h a0 = some r) : PM g l 7 0 0 yX7_frame wsX7_frame [.ref a0] h (fun r9 h9 => r9 = some (.int r.1) ∧ h9 = r.2) := by
  refine pm_of (M := m_X7_frame) (by decide) rfl rfl rfl (Nat.le_of_ble_eq_true rfl) (lo := [some (.ref a0), none, none]) rfl ?_
  rw [f_X7_frame] at hf
  refine pw_aload_n dX7_frame_0 rfl ?_
  refine pw_iconst (v := (0)) dX7_frame_1 (by decide) ?_
  refine q_pV (ty := .int) hf tyX7 tyX7_ok nmX7 rfl (by decide) w9_X7_frame_X7 (by decide +kernel) rfl (by decide +kernel) rfl rfl dX7_frame_2 (fun h1 hf => ?_)
  refine pw_aload_n dX7_frame_5 rfl ?_
  refine pw_aload_n dX7_frame_6 rfl ?_
  refine q_gI hf rfl (by decide) w9_X7_frame_X7 (by decide +kernel) dX7_frame_7 (fun x2 hf => ?_)
  refine q_pV (ty := .int) hf tyX7 tyX7_ok nmX7 rfl (by decide) w9_X7_frame_X7 (by decide +kernel) rfl (by decide +kernel) rfl rfl dX7_frame_10 (fun h3 hf => ?_)
  refine pw_aload_n dX7_frame_13 rfl ?_
  refine pw_iconst (v := (0)) dX7_frame_14 (by decide) ?_
  refine q_pV (ty := .int) hf tyX7 tyX7_ok nmX7 rfl (by decide) w9_X7_frame_X7 (by decide +kernel) rfl (by decide +kernel) rfl rfl dX7_frame_15 (fun h4 hf => ?_)
  refine pw_aload_n dX7_frame_18 rfl ?_
  refine pw_iconst (v := (0)) dX7_frame_19 (by decide) ?_
  refine q_pV (ty := .int) hf tyX7 tyX7_ok nmX7 rfl (by decide) w9_X7_frame_X7 (by decide +kernel) rfl (by decide +kernel) rfl rfl dX7_frame_20 (fun h5 hf => ?_)
  refine pw_aload_n dX7_frame_23 rfl ?_
  refine pw_iconst (v := (0)) dX7_frame_24 (by decide) ?_
  refine q_pV (ty := .int) hf tyX7 tyX7_ok nmX7 rfl (by decide) w9_X7_frame_X7 (by decide +kernel) rfl (by decide +kernel) rfl rfl dX7_frame_25 (fun h6 hf => ?_)
  refine pw_iconst (v := (0)) dX7_frame_28 (by decide) ?_
  refine pw_istore_n dX7_frame_29 (by decide) rfl ?_
  dsimp only [lset, lset2, clr]
  refine pw_iconst (v := (0)) dX7_frame_30 (by decide) ?_
  refine pw_istore_n dX7_frame_31 (by decide) rfl ?_
  dsimp only [lset, lset2, clr]
  exact pw_lo (lle_s rfl (lle_s rfl (lle_s rfl lle_0))) (w_X7_frame_32 4096 _ _ _ _ hf)
/-! X7_fault -/
abbrev m_X7_fault : MD := (cX7_fault, RX7, "fault", wsX7_fault, 1, (some .int))
theorem w9_X7_fault_X7 : ∀ w ∈ u_ws RX7 TX7 31, w ∈ wsX7_fault := by decide +kernel
theorem hd9_X7_fault : yX7_fault.cls = RX7 ∧ yX7_fault.cls ≠ "java/lang/invoke/MethodHandle" ∧ yX7_fault.cls ≠ "java/lang/invoke/VarHandle" ∧ (parseMethodDescriptor yX7_fault.desc).map (fun d => d.parameters.length) = some 0 := by decide +kernel
def f_X7_fault (h : Hp) (a0 : Nat) : Option (Int32 × Hp) := (pV h a0 7 0 (.int (0 : Int32))).bind fun h1 => (gI h1 a0 7 8).bind fun x2 => some ((x2, h1))
set_option maxHeartbeats 4000000 in
set_option maxRecDepth 100000 in
theorem t_X7_fault {g : GT} {l : Launch} {h : Hp} {a0 : Nat} {r : (Int32 × Hp)} (hf : f_X7_fault h a0 = some r) : PM g l 1 0 0 yX7_fault wsX7_fault [.ref a0] h (fun r9 h9 => r9 = some (.int r.1) ∧ h9 = r.2) := by
  refine pm_of (M := m_X7_fault) (by decide) rfl rfl rfl (Nat.le_of_ble_eq_true rfl) (lo := [some (.ref a0)]) rfl ?_
  rw [f_X7_fault] at hf
  refine pw_aload_n dX7_fault_0 rfl ?_
  refine pw_iconst (v := (0)) dX7_fault_1 (by decide) ?_
  refine q_pV (ty := .int) hf tyX7 tyX7_ok nmX7 rfl (by decide) w9_X7_fault_X7 (by decide +kernel) rfl (by decide +kernel) rfl rfl dX7_fault_2 (fun h1 hf => ?_)
  refine pw_aload_n dX7_fault_5 rfl ?_
  refine q_gI hf rfl (by decide) w9_X7_fault_X7 (by decide +kernel) dX7_fault_6 (fun x2 hf => ?_)
  exact pw_iret (x := x2) rfl rfl dX7_fault_9 (ret_iw hf)
/-! X7_laysKind -/
abbrev m_X7_laysKind : MD := (cX7_laysKind, RX7, "laysKind", wsX7_laysKind, 4, none)
theorem hd9_X7_laysKind : yX7_laysKind.cls ≠ "java/lang/invoke/MethodHandle" ∧ yX7_laysKind.cls ≠ "java/lang/invoke/VarHandle" ∧ (parseMethodDescriptor yX7_laysKind.desc).map (fun d => d.parameters.length) = some 3 := by decide +kernel
def f_X7_laysKind_2 : Nat → Nat → Int32 → Int32 → Int32 → Hp → Option Hp
  | 0, _, _, _, _, _ => none
  | n + 1, v0, v1, v2, v3, h => if (19 : Int32) ≤ v3 then (if v1 = (1 : Int32) then ((sI h 0 v0 (0 : Int32) (((2 : Int32) * v2) + (1 : Int32))).bind fun h1 => if v1 = (1 : Int32) then ((sI h1 0 v0 (1 : Int32) ((1 : Int32) <<< ((((2 : Int32) * v2) - (1 : Int32)) &&& 31))).bind fun h8 => if v1 = (2 : Int32) then ((sI h8 0 v0 (2 : Int32) ((((1 : Int32) <<< (v2 &&& 31)) - (1 : Int32)) <<< ((1 : Int32) &&& 31))).bind fun h10 => some h10) else ((sI h8 0 v0 (2 : Int32) (((1 : Int32) <<< (v2 &&& 31)) - (1 : Int32))).bind fun h9 => some h9)) else (if v1 = (3 : Int32) then ((sI h1 0 v0 (1 : Int32) ((1 : Int32) <<< (v2 &&& 31))).bind fun h5 => if v1 = (2 : Int32) then ((sI h5 0 v0 (2 : Int32) ((((1 : Int32) <<< (v2 &&& 31)) - (1 : Int32)) <<< ((1 : Int32) &&& 31))).bind fun h7 => some h7) else ((sI h5 0 v0 (2 : Int32) (((1 : Int32) <<< (v2 &&& 31)) - (1 : Int32))).bind fun h6 => some h6)) else ((sI h1 0 v0 (1 : Int32) (0 : Int32)).bind fun h2 => if v1 = (2 : Int32) then ((sI h2 0 v0 (2 : Int32) ((((1 : Int32) <<< (v2 &&& 31)) - (1 : Int32)) <<< ((1 : Int32) &&& 31))).bind fun h4 => some h4) else ((sI h2 0 v0 (2 : Int32) (((1 : Int32) <<< (v2 &&& 31)) - (1 : Int32))).bind fun h3 => some h3)))) else (if v1 = (3 : Int32) then ((sI h 0 v0 (0 : Int32) (((2 : Int32) * v2) + (1 : Int32))).bind fun h21 => if v1 = (1 : Int32) then ((sI h21 0 v0 (1 : Int32) ((1 : Int32) <<< ((((2 : Int32) * v2) - (1 : Int32)) &&& 31))).bind fun h28 => if v1 = (2 : Int32) then ((sI h28 0 v0 (2 : Int32) ((((1 : Int32) <<< (v2 &&& 31)) - (1 : Int32)) <<< ((1 : Int32) &&& 31))).bind fun h30 => some h30) else ((sI h28 0 v0 (2 : Int32) (((1 : Int32) <<< (v2 &&& 31)) - (1 : Int32))).bind fun h29 => some h29)) else (if v1 = (3 : Int32) then ((sI h21 0 v0 (1 : Int32) ((1 : Int32) <<< (v2 &&& 31))).bind fun h25 => if v1 = (2 : Int32) then ((sI h25 0 v0 (2 : Int32) ((((1 : Int32) <<< (v2 &&& 31)) - (1 : Int32)) <<< ((1 : Int32) &&& 31))).bind fun h27 => some h27) else ((sI h25 0 v0 (2 : Int32) (((1 : Int32) <<< (v2 &&& 31)) - (1 : Int32))).bind fun h26 => some h26)) else ((sI h21 0 v0 (1 : Int32) (0 : Int32)).bind fun h22 => if v1 = (2 : Int32) then ((sI h22 0 v0 (2 : Int32) ((((1 : Int32) <<< (v2 &&& 31)) - (1 : Int32)) <<< ((1 : Int32) &&& 31))).bind fun h24 => some h24) else ((sI h22 0 v0 (2 : Int32) (((1 : Int32) <<< (v2 &&& 31)) - (1 : Int32))).bind fun h23 => some h23)))) else ((sI h 0 v0 (0 : Int32) ((2 : Int32) * v2)).bind fun h11 => if v1 = (1 : Int32) then ((sI h11 0 v0 (1 : Int32) ((1 : Int32) <<< ((((2 : Int32) * v2) - (1 : Int32)) &&& 31))).bind fun h18 => if v1 = (2 : Int32) then ((sI h18 0 v0 (2 : Int32) ((((1 : Int32) <<< (v2 &&& 31)) - (1 : Int32)) <<< ((1 : Int32) &&& 31))).bind fun h20 => some h20) else ((sI h18 0 v0 (2 : Int32) (((1 : Int32) <<< (v2 &&& 31)) - (1 : Int32))).bind fun h19 => some h19)) else (if v1 = (3 : Int32) then ((sI h11 0 v0 (1 : Int32) ((1 : Int32) <<< (v2 &&& 31))).bind fun h15 => if v1 = (2 : Int32) then ((sI h15 0 v0 (2 : Int32) ((((1 : Int32) <<< (v2 &&& 31)) - (1 : Int32)) <<< ((1 : Int32) &&& 31))).bind fun h17 => some h17) else ((sI h15 0 v0 (2 : Int32) (((1 : Int32) <<< (v2 &&& 31)) - (1 : Int32))).bind fun h16 => some h16)) else ((sI h11 0 v0 (1 : Int32) (0 : Int32)).bind fun h12 => if v1 = (2 : Int32) then ((sI h12 0 v0 (2 : Int32) ((((1 : Int32) <<< (v2 &&& 31)) - (1 : Int32)) <<< ((1 : Int32) &&& 31))).bind fun h14 => some h14) else ((sI h12 0 v0 (2 : Int32) (((1 : Int32) <<< (v2 &&& 31)) - (1 : Int32))).bind fun h13 => some h13)))))) else ((sI h 0 v0 v3 (0 : Int32)).bind fun h31 => f_X7_laysKind_2 n v0 v1 v2 (v3 + (1)) h31)
set_option maxHeartbeats 4000000 in
set_option maxRecDepth 100000 in
theorem w_X7_laysKind_2 {g : GT} {l : Launch} {r : Hp} : ∀ (n : Nat) (v0 : Nat) (v1 : Int32) (v2 : Int32) (v3 : Int32) (h : Hp), f_X7_laysKind_2 n v0 v1 v2 v3 h = some r → PW g l m_X7_laysKind 1 0 0 2 [some (.ref v0), some (.int v1), some (.int v2), some (.int v3)] [] h (fun r9 h9 => r9 = none ∧ h9 = r) := by
  intro n
  induction n with
  | zero => intro v0 v1 v2 v3 h hf; cases hf
  | succ n ih =>
    intro v0 v1 v2 v3 h hf
    rw [f_X7_laysKind_2] at hf
    refine pw_iload_n dX7_laysKind_2 rfl ?_
    refine pw_bipush (v := (19)) dX7_laysKind_3 (by decide) ?_
    refine q_icmp_ge (tgt := 18) hf dX7_laysKind_5 (by decide) (fun hf _ => ?_) (fun hf _ => ?_)
    · refine pw_aload_n dX7_laysKind_18 rfl ?_
      refine pw_iconst (v := (0)) dX7_laysKind_19 (by decide) ?_
      refine pw_iload_n dX7_laysKind_20 rfl ?_
      refine pw_iconst (v := (1)) dX7_laysKind_21 (by decide) ?_
      refine q_icmp_eq (tgt := 30) hf dX7_laysKind_22 (by decide) (fun hf _ => ?_) (fun hf _ => ?_)
      · refine pw_iconst (v := (2)) dX7_laysKind_30 (by decide) ?_
        refine pw_iload_n dX7_laysKind_31 rfl ?_
        refine pw_imul dX7_laysKind_32 ?_
        refine pw_iconst (v := (1)) dX7_laysKind_33 (by decide) ?_
        refine pw_iadd dX7_laysKind_34 ?_
        refine pw_goto (tgt := 41) dX7_laysKind_35 (by decide) ?_
        refine q_iast hf dX7_laysKind_41 (fun h1 hf => ?_)
        refine pw_aload_n dX7_laysKind_42 rfl ?_
        refine pw_iconst (v := (1)) dX7_laysKind_43 (by decide) ?_
        refine pw_iload_n dX7_laysKind_44 rfl ?_
        refine pw_iconst (v := (1)) dX7_laysKind_45 (by decide) ?_
        refine q_icmp_ne (tgt := 59) hf dX7_laysKind_46 (by decide) (fun hf _ => ?_) (fun hf _ => ?_)
        · refine pw_iload_n dX7_laysKind_59 rfl ?_
          refine pw_iconst (v := (3)) dX7_laysKind_60 (by decide) ?_
          refine q_icmp_ne (tgt := 70) hf dX7_laysKind_61 (by decide) (fun hf _ => ?_) (fun hf _ => ?_)
          · refine pw_iconst (v := (0)) dX7_laysKind_70 (by decide) ?_
            refine q_iast hf dX7_laysKind_71 (fun h2 hf => ?_)
            refine pw_aload_n dX7_laysKind_72 rfl ?_
            refine pw_iconst (v := (2)) dX7_laysKind_73 (by decide) ?_
            refine pw_iload_n dX7_laysKind_74 rfl ?_
            refine pw_iconst (v := (2)) dX7_laysKind_75 (by decide) ?_
            refine q_icmp_ne (tgt := 89) hf dX7_laysKind_76 (by decide) (fun hf _ => ?_) (fun hf _ => ?_)
            · refine pw_iconst (v := (1)) dX7_laysKind_89 (by decide) ?_
              refine pw_iload_n dX7_laysKind_90 rfl ?_
              refine pw_ishl dX7_laysKind_91 ?_
              refine pw_iconst (v := (1)) dX7_laysKind_92 (by decide) ?_
              refine pw_isub dX7_laysKind_93 ?_
              refine q_iast hf dX7_laysKind_94 (fun h3 hf => ?_)
              exact pw_vret rfl dX7_laysKind_95 ⟨rfl, Option.some.inj hf⟩
            · refine pw_iconst (v := (1)) dX7_laysKind_79 (by decide) ?_
              refine pw_iload_n dX7_laysKind_80 rfl ?_
              refine pw_ishl dX7_laysKind_81 ?_
              refine pw_iconst (v := (1)) dX7_laysKind_82 (by decide) ?_
              refine pw_isub dX7_laysKind_83 ?_
              refine pw_iconst (v := (1)) dX7_laysKind_84 (by decide) ?_
              refine pw_ishl dX7_laysKind_85 ?_
              refine pw_goto (tgt := 94) dX7_laysKind_86 (by decide) ?_
              refine q_iast hf dX7_laysKind_94 (fun h4 hf => ?_)
              exact pw_vret rfl dX7_laysKind_95 ⟨rfl, Option.some.inj hf⟩
          · refine pw_iconst (v := (1)) dX7_laysKind_64 (by decide) ?_
            refine pw_iload_n dX7_laysKind_65 rfl ?_
            refine pw_ishl dX7_laysKind_66 ?_
            refine pw_goto (tgt := 71) dX7_laysKind_67 (by decide) ?_
            refine q_iast hf dX7_laysKind_71 (fun h5 hf => ?_)
            refine pw_aload_n dX7_laysKind_72 rfl ?_
            refine pw_iconst (v := (2)) dX7_laysKind_73 (by decide) ?_
            refine pw_iload_n dX7_laysKind_74 rfl ?_
            refine pw_iconst (v := (2)) dX7_laysKind_75 (by decide) ?_
            refine q_icmp_ne (tgt := 89) hf dX7_laysKind_76 (by decide) (fun hf _ => ?_) (fun hf _ => ?_)
            · refine pw_iconst (v := (1)) dX7_laysKind_89 (by decide) ?_
              refine pw_iload_n dX7_laysKind_90 rfl ?_
              refine pw_ishl dX7_laysKind_91 ?_
              refine pw_iconst (v := (1)) dX7_laysKind_92 (by decide) ?_
              refine pw_isub dX7_laysKind_93 ?_
              refine q_iast hf dX7_laysKind_94 (fun h6 hf => ?_)
              exact pw_vret rfl dX7_laysKind_95 ⟨rfl, Option.some.inj hf⟩
            · refine pw_iconst (v := (1)) dX7_laysKind_79 (by decide) ?_
              refine pw_iload_n dX7_laysKind_80 rfl ?_
              refine pw_ishl dX7_laysKind_81 ?_
              refine pw_iconst (v := (1)) dX7_laysKind_82 (by decide) ?_
              refine pw_isub dX7_laysKind_83 ?_
              refine pw_iconst (v := (1)) dX7_laysKind_84 (by decide) ?_
              refine pw_ishl dX7_laysKind_85 ?_
              refine pw_goto (tgt := 94) dX7_laysKind_86 (by decide) ?_
              refine q_iast hf dX7_laysKind_94 (fun h7 hf => ?_)
              exact pw_vret rfl dX7_laysKind_95 ⟨rfl, Option.some.inj hf⟩
        · refine pw_iconst (v := (1)) dX7_laysKind_49 (by decide) ?_
          refine pw_iconst (v := (2)) dX7_laysKind_50 (by decide) ?_
          refine pw_iload_n dX7_laysKind_51 rfl ?_
          refine pw_imul dX7_laysKind_52 ?_
          refine pw_iconst (v := (1)) dX7_laysKind_53 (by decide) ?_
          refine pw_isub dX7_laysKind_54 ?_
          refine pw_ishl dX7_laysKind_55 ?_
          refine pw_goto (tgt := 71) dX7_laysKind_56 (by decide) ?_
          refine q_iast hf dX7_laysKind_71 (fun h8 hf => ?_)
          refine pw_aload_n dX7_laysKind_72 rfl ?_
          refine pw_iconst (v := (2)) dX7_laysKind_73 (by decide) ?_
          refine pw_iload_n dX7_laysKind_74 rfl ?_
          refine pw_iconst (v := (2)) dX7_laysKind_75 (by decide) ?_
          refine q_icmp_ne (tgt := 89) hf dX7_laysKind_76 (by decide) (fun hf _ => ?_) (fun hf _ => ?_)
          · refine pw_iconst (v := (1)) dX7_laysKind_89 (by decide) ?_
            refine pw_iload_n dX7_laysKind_90 rfl ?_
            refine pw_ishl dX7_laysKind_91 ?_
            refine pw_iconst (v := (1)) dX7_laysKind_92 (by decide) ?_
            refine pw_isub dX7_laysKind_93 ?_
            refine q_iast hf dX7_laysKind_94 (fun h9 hf => ?_)
            exact pw_vret rfl dX7_laysKind_95 ⟨rfl, Option.some.inj hf⟩
          · refine pw_iconst (v := (1)) dX7_laysKind_79 (by decide) ?_
            refine pw_iload_n dX7_laysKind_80 rfl ?_
            refine pw_ishl dX7_laysKind_81 ?_
            refine pw_iconst (v := (1)) dX7_laysKind_82 (by decide) ?_
            refine pw_isub dX7_laysKind_83 ?_
            refine pw_iconst (v := (1)) dX7_laysKind_84 (by decide) ?_
            refine pw_ishl dX7_laysKind_85 ?_
            refine pw_goto (tgt := 94) dX7_laysKind_86 (by decide) ?_
            refine q_iast hf dX7_laysKind_94 (fun h10 hf => ?_)
            exact pw_vret rfl dX7_laysKind_95 ⟨rfl, Option.some.inj hf⟩
      · refine pw_iload_n dX7_laysKind_25 rfl ?_
        refine pw_iconst (v := (3)) dX7_laysKind_26 (by decide) ?_
        refine q_icmp_ne (tgt := 38) hf dX7_laysKind_27 (by decide) (fun hf _ => ?_) (fun hf _ => ?_)
        · refine pw_iconst (v := (2)) dX7_laysKind_38 (by decide) ?_
          refine pw_iload_n dX7_laysKind_39 rfl ?_
          refine pw_imul dX7_laysKind_40 ?_
          refine q_iast hf dX7_laysKind_41 (fun h11 hf => ?_)
          refine pw_aload_n dX7_laysKind_42 rfl ?_
          refine pw_iconst (v := (1)) dX7_laysKind_43 (by decide) ?_
          refine pw_iload_n dX7_laysKind_44 rfl ?_
          refine pw_iconst (v := (1)) dX7_laysKind_45 (by decide) ?_
          refine q_icmp_ne (tgt := 59) hf dX7_laysKind_46 (by decide) (fun hf _ => ?_) (fun hf _ => ?_)
          · refine pw_iload_n dX7_laysKind_59 rfl ?_
            refine pw_iconst (v := (3)) dX7_laysKind_60 (by decide) ?_
            refine q_icmp_ne (tgt := 70) hf dX7_laysKind_61 (by decide) (fun hf _ => ?_) (fun hf _ => ?_)
            · refine pw_iconst (v := (0)) dX7_laysKind_70 (by decide) ?_
              refine q_iast hf dX7_laysKind_71 (fun h12 hf => ?_)
              refine pw_aload_n dX7_laysKind_72 rfl ?_
              refine pw_iconst (v := (2)) dX7_laysKind_73 (by decide) ?_
              refine pw_iload_n dX7_laysKind_74 rfl ?_
              refine pw_iconst (v := (2)) dX7_laysKind_75 (by decide) ?_
              refine q_icmp_ne (tgt := 89) hf dX7_laysKind_76 (by decide) (fun hf _ => ?_) (fun hf _ => ?_)
              · refine pw_iconst (v := (1)) dX7_laysKind_89 (by decide) ?_
                refine pw_iload_n dX7_laysKind_90 rfl ?_
                refine pw_ishl dX7_laysKind_91 ?_
                refine pw_iconst (v := (1)) dX7_laysKind_92 (by decide) ?_
                refine pw_isub dX7_laysKind_93 ?_
                refine q_iast hf dX7_laysKind_94 (fun h13 hf => ?_)
                exact pw_vret rfl dX7_laysKind_95 ⟨rfl, Option.some.inj hf⟩
              · refine pw_iconst (v := (1)) dX7_laysKind_79 (by decide) ?_
                refine pw_iload_n dX7_laysKind_80 rfl ?_
                refine pw_ishl dX7_laysKind_81 ?_
                refine pw_iconst (v := (1)) dX7_laysKind_82 (by decide) ?_
                refine pw_isub dX7_laysKind_83 ?_
                refine pw_iconst (v := (1)) dX7_laysKind_84 (by decide) ?_
                refine pw_ishl dX7_laysKind_85 ?_
                refine pw_goto (tgt := 94) dX7_laysKind_86 (by decide) ?_
                refine q_iast hf dX7_laysKind_94 (fun h14 hf => ?_)
                exact pw_vret rfl dX7_laysKind_95 ⟨rfl, Option.some.inj hf⟩
            · refine pw_iconst (v := (1)) dX7_laysKind_64 (by decide) ?_
              refine pw_iload_n dX7_laysKind_65 rfl ?_
              refine pw_ishl dX7_laysKind_66 ?_
              refine pw_goto (tgt := 71) dX7_laysKind_67 (by decide) ?_
              refine q_iast hf dX7_laysKind_71 (fun h15 hf => ?_)
              refine pw_aload_n dX7_laysKind_72 rfl ?_
              refine pw_iconst (v := (2)) dX7_laysKind_73 (by decide) ?_
              refine pw_iload_n dX7_laysKind_74 rfl ?_
              refine pw_iconst (v := (2)) dX7_laysKind_75 (by decide) ?_
              refine q_icmp_ne (tgt := 89) hf dX7_laysKind_76 (by decide) (fun hf _ => ?_) (fun hf _ => ?_)
              · refine pw_iconst (v := (1)) dX7_laysKind_89 (by decide) ?_
                refine pw_iload_n dX7_laysKind_90 rfl ?_
                refine pw_ishl dX7_laysKind_91 ?_
                refine pw_iconst (v := (1)) dX7_laysKind_92 (by decide) ?_
                refine pw_isub dX7_laysKind_93 ?_
                refine q_iast hf dX7_laysKind_94 (fun h16 hf => ?_)
                exact pw_vret rfl dX7_laysKind_95 ⟨rfl, Option.some.inj hf⟩
              · refine pw_iconst (v := (1)) dX7_laysKind_79 (by decide) ?_
                refine pw_iload_n dX7_laysKind_80 rfl ?_
                refine pw_ishl dX7_laysKind_81 ?_
                refine pw_iconst (v := (1)) dX7_laysKind_82 (by decide) ?_
                refine pw_isub dX7_laysKind_83 ?_
                refine pw_iconst (v := (1)) dX7_laysKind_84 (by decide) ?_
                refine pw_ishl dX7_laysKind_85 ?_
                refine pw_goto (tgt := 94) dX7_laysKind_86 (by decide) ?_
                refine q_iast hf dX7_laysKind_94 (fun h17 hf => ?_)
                exact pw_vret rfl dX7_laysKind_95 ⟨rfl, Option.some.inj hf⟩
          · refine pw_iconst (v := (1)) dX7_laysKind_49 (by decide) ?_
            refine pw_iconst (v := (2)) dX7_laysKind_50 (by decide) ?_
            refine pw_iload_n dX7_laysKind_51 rfl ?_
            refine pw_imul dX7_laysKind_52 ?_
            refine pw_iconst (v := (1)) dX7_laysKind_53 (by decide) ?_
            refine pw_isub dX7_laysKind_54 ?_
            refine pw_ishl dX7_laysKind_55 ?_
            refine pw_goto (tgt := 71) dX7_laysKind_56 (by decide) ?_
            refine q_iast hf dX7_laysKind_71 (fun h18 hf => ?_)
            refine pw_aload_n dX7_laysKind_72 rfl ?_
            refine pw_iconst (v := (2)) dX7_laysKind_73 (by decide) ?_
            refine pw_iload_n dX7_laysKind_74 rfl ?_
            refine pw_iconst (v := (2)) dX7_laysKind_75 (by decide) ?_
            refine q_icmp_ne (tgt := 89) hf dX7_laysKind_76 (by decide) (fun hf _ => ?_) (fun hf _ => ?_)
            · refine pw_iconst (v := (1)) dX7_laysKind_89 (by decide) ?_
              refine pw_iload_n dX7_laysKind_90 rfl ?_
              refine pw_ishl dX7_laysKind_91 ?_
              refine pw_iconst (v := (1)) dX7_laysKind_92 (by decide) ?_
              refine pw_isub dX7_laysKind_93 ?_
              refine q_iast hf dX7_laysKind_94 (fun h19 hf => ?_)
              exact pw_vret rfl dX7_laysKind_95 ⟨rfl, Option.some.inj hf⟩
            · refine pw_iconst (v := (1)) dX7_laysKind_79 (by decide) ?_
              refine pw_iload_n dX7_laysKind_80 rfl ?_
              refine pw_ishl dX7_laysKind_81 ?_
              refine pw_iconst (v := (1)) dX7_laysKind_82 (by decide) ?_
              refine pw_isub dX7_laysKind_83 ?_
              refine pw_iconst (v := (1)) dX7_laysKind_84 (by decide) ?_
              refine pw_ishl dX7_laysKind_85 ?_
              refine pw_goto (tgt := 94) dX7_laysKind_86 (by decide) ?_
              refine q_iast hf dX7_laysKind_94 (fun h20 hf => ?_)
              exact pw_vret rfl dX7_laysKind_95 ⟨rfl, Option.some.inj hf⟩
        · refine pw_iconst (v := (2)) dX7_laysKind_30 (by decide) ?_
          refine pw_iload_n dX7_laysKind_31 rfl ?_
          refine pw_imul dX7_laysKind_32 ?_
          refine pw_iconst (v := (1)) dX7_laysKind_33 (by decide) ?_
          refine pw_iadd dX7_laysKind_34 ?_
          refine pw_goto (tgt := 41) dX7_laysKind_35 (by decide) ?_
          refine q_iast hf dX7_laysKind_41 (fun h21 hf => ?_)
          refine pw_aload_n dX7_laysKind_42 rfl ?_
          refine pw_iconst (v := (1)) dX7_laysKind_43 (by decide) ?_
          refine pw_iload_n dX7_laysKind_44 rfl ?_
          refine pw_iconst (v := (1)) dX7_laysKind_45 (by decide) ?_
          refine q_icmp_ne (tgt := 59) hf dX7_laysKind_46 (by decide) (fun hf _ => ?_) (fun hf _ => ?_)
          · refine pw_iload_n dX7_laysKind_59 rfl ?_
            refine pw_iconst (v := (3)) dX7_laysKind_60 (by decide) ?_
            refine q_icmp_ne (tgt := 70) hf dX7_laysKind_61 (by decide) (fun hf _ => ?_) (fun hf _ => ?_)
            · refine pw_iconst (v := (0)) dX7_laysKind_70 (by decide) ?_
              refine q_iast hf dX7_laysKind_71 (fun h22 hf => ?_)
              refine pw_aload_n dX7_laysKind_72 rfl ?_
              refine pw_iconst (v := (2)) dX7_laysKind_73 (by decide) ?_
              refine pw_iload_n dX7_laysKind_74 rfl ?_
              refine pw_iconst (v := (2)) dX7_laysKind_75 (by decide) ?_
              refine q_icmp_ne (tgt := 89) hf dX7_laysKind_76 (by decide) (fun hf _ => ?_) (fun hf _ => ?_)
              · refine pw_iconst (v := (1)) dX7_laysKind_89 (by decide) ?_
                refine pw_iload_n dX7_laysKind_90 rfl ?_
                refine pw_ishl dX7_laysKind_91 ?_
                refine pw_iconst (v := (1)) dX7_laysKind_92 (by decide) ?_
                refine pw_isub dX7_laysKind_93 ?_
                refine q_iast hf dX7_laysKind_94 (fun h23 hf => ?_)
                exact pw_vret rfl dX7_laysKind_95 ⟨rfl, Option.some.inj hf⟩
              · refine pw_iconst (v := (1)) dX7_laysKind_79 (by decide) ?_
                refine pw_iload_n dX7_laysKind_80 rfl ?_
                refine pw_ishl dX7_laysKind_81 ?_
                refine pw_iconst (v := (1)) dX7_laysKind_82 (by decide) ?_
                refine pw_isub dX7_laysKind_83 ?_
                refine pw_iconst (v := (1)) dX7_laysKind_84 (by decide) ?_
                refine pw_ishl dX7_laysKind_85 ?_
                refine pw_goto (tgt := 94) dX7_laysKind_86 (by decide) ?_
                refine q_iast hf dX7_laysKind_94 (fun h24 hf => ?_)
                exact pw_vret rfl dX7_laysKind_95 ⟨rfl, Option.some.inj hf⟩
            · refine pw_iconst (v := (1)) dX7_laysKind_64 (by decide) ?_
              refine pw_iload_n dX7_laysKind_65 rfl ?_
              refine pw_ishl dX7_laysKind_66 ?_
              refine pw_goto (tgt := 71) dX7_laysKind_67 (by decide) ?_
              refine q_iast hf dX7_laysKind_71 (fun h25 hf => ?_)
              refine pw_aload_n dX7_laysKind_72 rfl ?_
              refine pw_iconst (v := (2)) dX7_laysKind_73 (by decide) ?_
              refine pw_iload_n dX7_laysKind_74 rfl ?_
              refine pw_iconst (v := (2)) dX7_laysKind_75 (by decide) ?_
              refine q_icmp_ne (tgt := 89) hf dX7_laysKind_76 (by decide) (fun hf _ => ?_) (fun hf _ => ?_)
              · refine pw_iconst (v := (1)) dX7_laysKind_89 (by decide) ?_
                refine pw_iload_n dX7_laysKind_90 rfl ?_
                refine pw_ishl dX7_laysKind_91 ?_
                refine pw_iconst (v := (1)) dX7_laysKind_92 (by decide) ?_
                refine pw_isub dX7_laysKind_93 ?_
                refine q_iast hf dX7_laysKind_94 (fun h26 hf => ?_)
                exact pw_vret rfl dX7_laysKind_95 ⟨rfl, Option.some.inj hf⟩
              · refine pw_iconst (v := (1)) dX7_laysKind_79 (by decide) ?_
                refine pw_iload_n dX7_laysKind_80 rfl ?_
                refine pw_ishl dX7_laysKind_81 ?_
                refine pw_iconst (v := (1)) dX7_laysKind_82 (by decide) ?_
                refine pw_isub dX7_laysKind_83 ?_
                refine pw_iconst (v := (1)) dX7_laysKind_84 (by decide) ?_
                refine pw_ishl dX7_laysKind_85 ?_
                refine pw_goto (tgt := 94) dX7_laysKind_86 (by decide) ?_
                refine q_iast hf dX7_laysKind_94 (fun h27 hf => ?_)
                exact pw_vret rfl dX7_laysKind_95 ⟨rfl, Option.some.inj hf⟩
          · refine pw_iconst (v := (1)) dX7_laysKind_49 (by decide) ?_
            refine pw_iconst (v := (2)) dX7_laysKind_50 (by decide) ?_
            refine pw_iload_n dX7_laysKind_51 rfl ?_
            refine pw_imul dX7_laysKind_52 ?_
            refine pw_iconst (v := (1)) dX7_laysKind_53 (by decide) ?_
            refine pw_isub dX7_laysKind_54 ?_
            refine pw_ishl dX7_laysKind_55 ?_
            refine pw_goto (tgt := 71) dX7_laysKind_56 (by decide) ?_
            refine q_iast hf dX7_laysKind_71 (fun h28 hf => ?_)
            refine pw_aload_n dX7_laysKind_72 rfl ?_
            refine pw_iconst (v := (2)) dX7_laysKind_73 (by decide) ?_
            refine pw_iload_n dX7_laysKind_74 rfl ?_
            refine pw_iconst (v := (2)) dX7_laysKind_75 (by decide) ?_
            refine q_icmp_ne (tgt := 89) hf dX7_laysKind_76 (by decide) (fun hf _ => ?_) (fun hf _ => ?_)
            · refine pw_iconst (v := (1)) dX7_laysKind_89 (by decide) ?_
              refine pw_iload_n dX7_laysKind_90 rfl ?_
              refine pw_ishl dX7_laysKind_91 ?_
              refine pw_iconst (v := (1)) dX7_laysKind_92 (by decide) ?_
              refine pw_isub dX7_laysKind_93 ?_
              refine q_iast hf dX7_laysKind_94 (fun h29 hf => ?_)
              exact pw_vret rfl dX7_laysKind_95 ⟨rfl, Option.some.inj hf⟩
            · refine pw_iconst (v := (1)) dX7_laysKind_79 (by decide) ?_
              refine pw_iload_n dX7_laysKind_80 rfl ?_
              refine pw_ishl dX7_laysKind_81 ?_
              refine pw_iconst (v := (1)) dX7_laysKind_82 (by decide) ?_
              refine pw_isub dX7_laysKind_83 ?_
              refine pw_iconst (v := (1)) dX7_laysKind_84 (by decide) ?_
              refine pw_ishl dX7_laysKind_85 ?_
              refine pw_goto (tgt := 94) dX7_laysKind_86 (by decide) ?_
              refine q_iast hf dX7_laysKind_94 (fun h30 hf => ?_)
              exact pw_vret rfl dX7_laysKind_95 ⟨rfl, Option.some.inj hf⟩
    · refine pw_aload_n dX7_laysKind_8 rfl ?_
      refine pw_iload_n dX7_laysKind_9 rfl ?_
      refine pw_iconst (v := (0)) dX7_laysKind_10 (by decide) ?_
      refine q_iast hf dX7_laysKind_11 (fun h31 hf => ?_)
      refine pw_iinc (v := v3 + (1)) dX7_laysKind_12 rfl rfl (by decide) rfl ?_
      dsimp only [lset, lset2, clr]
      refine pw_goto (tgt := 2) dX7_laysKind_15 (by decide) ?_
      exact pw_lo (lle_s rfl (lle_s rfl (lle_s rfl (lle_s rfl lle_0)))) (ih _ _ _ _ _ hf)
def f_X7_laysKind (h : Hp) (a0 : Nat) (a1 : Int32) (a2 : Int32) : Option Hp := f_X7_laysKind_2 4096 a0 a1 a2 (0 : Int32) h
set_option maxHeartbeats 4000000 in
set_option maxRecDepth 100000 in
theorem t_X7_laysKind {g : GT} {l : Launch} {h : Hp} {a0 : Nat} {a1 : Int32} {a2 : Int32} {r : Hp} (hf : f_X7_laysKind h a0 a1 a2 = some r) : PM g l 1 0 0 yX7_laysKind wsX7_laysKind [.ref a0, .int a1, .int a2] h (fun r9 h9 => r9 = none ∧ h9 = r) := by
  refine pm_of (M := m_X7_laysKind) (by decide) rfl rfl rfl (Nat.le_of_ble_eq_true rfl) (lo := [some (.ref a0), some (.int a1), some (.int a2), none]) rfl ?_
  rw [f_X7_laysKind] at hf
  refine pw_iconst (v := (0)) dX7_laysKind_0 (by decide) ?_
  refine pw_istore_n dX7_laysKind_1 (by decide) rfl ?_
  dsimp only [lset, lset2, clr]
  exact pw_lo (lle_s rfl (lle_s rfl (lle_s rfl (lle_s rfl lle_0)))) (w_X7_laysKind_2 4096 _ _ _ _ _ hf)
/-! X7_snap -/
abbrev m_X7_snap : MD := (cX7_snap, RX7, "snap", wsX7_snap, 2, none)
theorem w9_X7_snap_X7 : ∀ w ∈ u_ws RX7 TX7 31, w ∈ wsX7_snap := by decide +kernel
theorem hd9_X7_snap : yX7_snap.cls = RX7 ∧ yX7_snap.cls ≠ "java/lang/invoke/MethodHandle" ∧ yX7_snap.cls ≠ "java/lang/invoke/VarHandle" ∧ (parseMethodDescriptor yX7_snap.desc).map (fun d => d.parameters.length) = some 0 := by decide +kernel
def f_X7_snap_11 : Nat → Nat → Int32 → Hp → Option Hp
  | 0, _, _, _ => none
  | n + 1, v0, v1, h => if (133 : Int32) ≤ v1 then ((gI h v0 7 19).bind fun x1 => (pV h v0 7 19 (.int (x1 - (1 : Int32)))).bind fun h2 => (gR h2 v0 7 11).bind fun x3 => (gR h2 v0 7 14).bind fun x4 => (gI h2 v0 7 19).bind fun x5 => (f_X7_copy h2 x3 (0 : Int32) x4 ((19 : Int32) * x5)).bind fun h6 => (gI h6 v0 7 19).bind fun x7 => (pV h6 v0 7 19 (.int (x7 + (1 : Int32)))).bind fun h8 => some h8) else ((gR h v0 7 14).bind fun x9 => (gR h v0 7 14).bind fun x10 => (aI h 0 x10 (v1 + (19 : Int32))).bind fun x11 => (sI h 0 x9 v1 x11).bind fun h12 => f_X7_snap_11 n v0 (v1 + (1)) h12)
set_option maxHeartbeats 4000000 in
set_option maxRecDepth 100000 in
theorem w_X7_snap_11 {g : GT} {l : Launch} {r : Hp} : ∀ (n : Nat) (v0 : Nat) (v1 : Int32) (h : Hp), f_X7_snap_11 n v0 v1 h = some r → PW g l m_X7_snap 2 0 0 11 [some (.ref v0), some (.int v1)] [] h (fun r9 h9 => r9 = none ∧ h9 = r) := by
  intro n
  induction n with
  | zero => intro v0 v1 h hf; cases hf
  | succ n ih =>
    intro v0 v1 h hf
    rw [f_X7_snap_11] at hf
    refine pw_iload_n dX7_snap_11 rfl ?_
    refine pw_sipush (v := (133)) dX7_snap_12 (by decide) ?_
    refine q_icmp_ge (tgt := 39) hf dX7_snap_15 (by decide) (fun hf _ => ?_) (fun hf _ => ?_)
    · refine pw_aload_n dX7_snap_39 rfl ?_
      refine pw_dup dX7_snap_40 rfl ?_
      refine q_gI hf rfl (by decide) w9_X7_snap_X7 (by decide +kernel) dX7_snap_41 (fun x1 hf => ?_)
      refine pw_iconst (v := (1)) dX7_snap_44 (by decide) ?_
      refine pw_isub dX7_snap_45 ?_
      refine q_pV (ty := .int) hf tyX7 tyX7_ok nmX7 rfl (by decide) w9_X7_snap_X7 (by decide +kernel) rfl (by decide +kernel) rfl rfl dX7_snap_46 (fun h2 hf => ?_)
      refine pw_aload_n dX7_snap_49 rfl ?_
      refine q_gR hf rfl (by decide) w9_X7_snap_X7 (by decide +kernel) dX7_snap_50 (fun x3 hf => ?_)
      refine pw_iconst (v := (0)) dX7_snap_53 (by decide) ?_
      refine pw_aload_n dX7_snap_54 rfl ?_
      refine q_gR hf rfl (by decide) w9_X7_snap_X7 (by decide +kernel) dX7_snap_55 (fun x4 hf => ?_)
      refine pw_bipush (v := (19)) dX7_snap_58 (by decide) ?_
      refine pw_aload_n dX7_snap_60 rfl ?_
      refine q_gI hf rfl (by decide) w9_X7_snap_X7 (by decide +kernel) dX7_snap_61 (fun x5 hf => ?_)
      refine pw_imul dX7_snap_64 ?_
      refine q_callS_v (kc2 := 0) (ks2 := 0) (as := [.ref x3, .int (0 : Int32), .ref x4, .int ((19 : Int32) * x5)]) (rest := []) hf (fun x9 e9 => t_X7_copy e9) gX7_snap_X7_copy rfl hd9_X7_copy rfl ⟨(by decide), by decide⟩ ⟨rfl, rfl⟩ (Nat.le_of_ble_eq_true rfl) dX7_snap_65 rfl (fun h6 hf => ?_)
      refine pw_aload_n dX7_snap_68 rfl ?_
      refine pw_dup dX7_snap_69 rfl ?_
      refine q_gI hf rfl (by decide) w9_X7_snap_X7 (by decide +kernel) dX7_snap_70 (fun x7 hf => ?_)
      refine pw_iconst (v := (1)) dX7_snap_73 (by decide) ?_
      refine pw_iadd dX7_snap_74 ?_
      refine q_pV (ty := .int) hf tyX7 tyX7_ok nmX7 rfl (by decide) w9_X7_snap_X7 (by decide +kernel) rfl (by decide +kernel) rfl rfl dX7_snap_75 (fun h8 hf => ?_)
      exact pw_vret rfl dX7_snap_78 ⟨rfl, Option.some.inj hf⟩
    · refine pw_aload_n dX7_snap_18 rfl ?_
      refine q_gR hf rfl (by decide) w9_X7_snap_X7 (by decide +kernel) dX7_snap_19 (fun x9 hf => ?_)
      refine pw_iload_n dX7_snap_22 rfl ?_
      refine pw_aload_n dX7_snap_23 rfl ?_
      refine q_gR hf rfl (by decide) w9_X7_snap_X7 (by decide +kernel) dX7_snap_24 (fun x10 hf => ?_)
      refine pw_iload_n dX7_snap_27 rfl ?_
      refine pw_bipush (v := (19)) dX7_snap_28 (by decide) ?_
      refine pw_iadd dX7_snap_30 ?_
      refine q_iald hf dX7_snap_31 (fun x11 hf => ?_)
      refine q_iast hf dX7_snap_32 (fun h12 hf => ?_)
      refine pw_iinc (v := v1 + (1)) dX7_snap_33 rfl rfl (by decide) rfl ?_
      dsimp only [lset, lset2, clr]
      refine pw_goto (tgt := 11) dX7_snap_36 (by decide) ?_
      exact pw_lo (lle_s rfl (lle_s rfl lle_0)) (ih _ _ _ hf)
def f_X7_snap (h : Hp) (a0 : Nat) : Option Hp := (gI h a0 7 19).bind fun x1 => if x1 = (8 : Int32) then (f_X7_snap_11 4096 a0 (0 : Int32) h) else ((gR h a0 7 11).bind fun x2 => (gR h a0 7 14).bind fun x3 => (gI h a0 7 19).bind fun x4 => (f_X7_copy h x2 (0 : Int32) x3 ((19 : Int32) * x4)).bind fun h5 => (gI h5 a0 7 19).bind fun x6 => (pV h5 a0 7 19 (.int (x6 + (1 : Int32)))).bind fun h7 => some h7)
set_option maxHeartbeats 4000000 in
set_option maxRecDepth 100000 in
theorem t_X7_snap {g : GT} {l : Launch} {h : Hp} {a0 : Nat} {r : Hp} (hf : f_X7_snap h a0 = some r) : PM g l 2 0 0 yX7_snap wsX7_snap [.ref a0] h (fun r9 h9 => r9 = none ∧ h9 = r) := by
  refine pm_of (M := m_X7_snap) (by decide) rfl rfl rfl (Nat.le_of_ble_eq_true rfl) (lo := [some (.ref a0), none]) rfl ?_
  rw [f_X7_snap] at hf
  refine pw_aload_n dX7_snap_0 rfl ?_
  refine q_gI hf rfl (by decide) w9_X7_snap_X7 (by decide +kernel) dX7_snap_1 (fun x1 hf => ?_)
  refine pw_bipush (v := (8)) dX7_snap_4 (by decide) ?_
  refine q_icmp_ne (tgt := 49) hf dX7_snap_6 (by decide) (fun hf _ => ?_) (fun hf _ => ?_)
  · refine pw_aload_n dX7_snap_49 rfl ?_
    refine q_gR hf rfl (by decide) w9_X7_snap_X7 (by decide +kernel) dX7_snap_50 (fun x2 hf => ?_)
    refine pw_iconst (v := (0)) dX7_snap_53 (by decide) ?_
    refine pw_aload_n dX7_snap_54 rfl ?_
    refine q_gR hf rfl (by decide) w9_X7_snap_X7 (by decide +kernel) dX7_snap_55 (fun x3 hf => ?_)
    refine pw_bipush (v := (19)) dX7_snap_58 (by decide) ?_
    refine pw_aload_n dX7_snap_60 rfl ?_
    refine q_gI hf rfl (by decide) w9_X7_snap_X7 (by decide +kernel) dX7_snap_61 (fun x4 hf => ?_)
    refine pw_imul dX7_snap_64 ?_
    refine q_callS_v (kc2 := 0) (ks2 := 0) (as := [.ref x2, .int (0 : Int32), .ref x3, .int ((19 : Int32) * x4)]) (rest := []) hf (fun x9 e9 => t_X7_copy e9) gX7_snap_X7_copy rfl hd9_X7_copy rfl ⟨(by decide), by decide⟩ ⟨rfl, rfl⟩ (Nat.le_of_ble_eq_true rfl) dX7_snap_65 rfl (fun h5 hf => ?_)
    refine pw_aload_n dX7_snap_68 rfl ?_
    refine pw_dup dX7_snap_69 rfl ?_
    refine q_gI hf rfl (by decide) w9_X7_snap_X7 (by decide +kernel) dX7_snap_70 (fun x6 hf => ?_)
    refine pw_iconst (v := (1)) dX7_snap_73 (by decide) ?_
    refine pw_iadd dX7_snap_74 ?_
    refine q_pV (ty := .int) hf tyX7 tyX7_ok nmX7 rfl (by decide) w9_X7_snap_X7 (by decide +kernel) rfl (by decide +kernel) rfl rfl dX7_snap_75 (fun h7 hf => ?_)
    exact pw_vret rfl dX7_snap_78 ⟨rfl, Option.some.inj hf⟩
  · refine pw_iconst (v := (0)) dX7_snap_9 (by decide) ?_
    refine pw_istore_n dX7_snap_10 (by decide) rfl ?_
    dsimp only [lset, lset2, clr]
    exact pw_lo (lle_s rfl (lle_s rfl lle_0)) (w_X7_snap_11 4096 _ _ _ hf)
/-! X7_kind -/
abbrev m_X7_kind : MD := (cX7_kind, RX7, "kind", wsX7_kind, 3, (some .int))
theorem w9_X7_kind_X7 : ∀ w ∈ u_ws RX7 TX7 31, w ∈ wsX7_kind := by decide +kernel
theorem hd9_X7_kind : yX7_kind.cls = RX7 ∧ yX7_kind.cls ≠ "java/lang/invoke/MethodHandle" ∧ yX7_kind.cls ≠ "java/lang/invoke/VarHandle" ∧ (parseMethodDescriptor yX7_kind.desc).map (fun d => d.parameters.length) = some 2 := by decide +kernel
def f_X7_kind (h : Hp) (a0 : Nat) (a1 : Int32) (a2 : Int32) : Option (Int32 × Hp) := (pV h a0 7 0 (.int (0 : Int32))).bind fun h1 => (f_X7_isIn h1 a1 (0 : Int32) (3 : Int32)).bind fun x2 => if x2 = 0 then (some (((-1 : Int32), h1))) else (if (a1 - a1 / (2 : Int32) * (2 : Int32)) = (1 : Int32) then ((f_X7_isIn h1 a2 (1 : Int32) (8 : Int32)).bind fun x9 => if x9 = 0 then (some (((-1 : Int32), h1))) else (if oK h1 a0 7 = true then (f_X7_snap h1 a0).bind fun h10 => (gR h10 a0 7 11).bind fun x11 => (f_X7_laysKind h10 x11 a1 a2).bind fun h12 => (gR h12 a0 7 11).bind fun x13 => (aI h12 0 x13 (0 : Int32)).bind fun x14 => some ((x14, h12)) else none)) else ((f_X7_isIn h1 a2 (1 : Int32) (9 : Int32)).bind fun x3 => if x3 = 0 then (some (((-1 : Int32), h1))) else (if oK h1 a0 7 = true then (f_X7_snap h1 a0).bind fun h4 => (gR h4 a0 7 11).bind fun x5 => (f_X7_laysKind h4 x5 a1 a2).bind fun h6 => (gR h6 a0 7 11).bind fun x7 => (aI h6 0 x7 (0 : Int32)).bind fun x8 => some ((x8, h6)) else none)))
set_option maxHeartbeats 4000000 in
set_option maxRecDepth 100000 in
theorem t_X7_kind {g : GT} {l : Launch} {h : Hp} {a0 : Nat} {a1 : Int32} {a2 : Int32} {r : (Int32 × Hp)} (hf : f_X7_kind h a0 a1 a2 = some r) : PM g l 3 0 0 yX7_kind wsX7_kind [.ref a0, .int a1, .int a2] h (fun r9 h9 => r9 = some (.int r.1) ∧ h9 = r.2) := by
  refine pm_of (M := m_X7_kind) (by decide) rfl rfl rfl (Nat.le_of_ble_eq_true rfl) (lo := [some (.ref a0), some (.int a1), some (.int a2)]) rfl ?_
  rw [f_X7_kind] at hf
  refine pw_aload_n dX7_kind_0 rfl ?_
  refine pw_iconst (v := (0)) dX7_kind_1 (by decide) ?_
  refine q_pV (ty := .int) hf tyX7 tyX7_ok nmX7 rfl (by decide) w9_X7_kind_X7 (by decide +kernel) rfl (by decide +kernel) rfl rfl dX7_kind_2 (fun h1 hf => ?_)
  refine pw_iload_n dX7_kind_5 rfl ?_
  refine pw_iconst (v := (0)) dX7_kind_6 (by decide) ?_
  refine pw_iconst (v := (3)) dX7_kind_7 (by decide) ?_
  refine q_callS_i (kc2 := 0) (ks2 := 0) (as := [.int a1, .int (0 : Int32), .int (3 : Int32)]) (rest := []) hf (fun x9 e9 => t_X7_isIn e9) gX7_kind_X7_isIn rfl hd9_X7_isIn rfl ⟨(by decide), by decide⟩ ⟨rfl, rfl⟩ (Nat.le_of_ble_eq_true rfl) dX7_kind_8 rfl (fun x2 hf => ?_)
  refine q_if_eq (tgt := 36) hf dX7_kind_11 (by decide) (fun hf _ => ?_) (fun hf _ => ?_)
  · refine pw_iconst (v := (-1)) dX7_kind_36 (by decide) ?_
    exact pw_iret (x := (-1 : Int32)) rfl rfl dX7_kind_37 (ret_iw hf)
  · refine pw_iload_n dX7_kind_14 rfl ?_
    refine pw_iconst (v := (1)) dX7_kind_15 (by decide) ?_
    refine pw_iload_n dX7_kind_16 rfl ?_
    refine pw_iconst (v := (2)) dX7_kind_17 (by decide) ?_
    refine pw_irem dX7_kind_18 (by decide) ?_
    refine pw_iconst (v := (1)) dX7_kind_19 (by decide) ?_
    refine q_icmp_ne (tgt := 28) hf dX7_kind_20 (by decide) (fun hf _ => ?_) (fun hf _ => ?_)
    · refine pw_bipush (v := (9)) dX7_kind_28 (by decide) ?_
      refine q_callS_i (kc2 := 0) (ks2 := 0) (as := [.int a2, .int (1 : Int32), .int (9 : Int32)]) (rest := []) hf (fun x9 e9 => t_X7_isIn e9) gX7_kind_X7_isIn rfl hd9_X7_isIn rfl ⟨(by decide), by decide⟩ ⟨rfl, rfl⟩ (Nat.le_of_ble_eq_true rfl) dX7_kind_30 rfl (fun x3 hf => ?_)
      refine q_if_ne (tgt := 38) hf dX7_kind_33 (by decide) (fun hf _ => ?_) (fun hf _ => ?_)
      · refine pw_aload_n dX7_kind_38 rfl ?_
        refine q_callV_v (kc2 := 0) (ks2 := 0) (as := []) (rest := []) hf (fun x9 e9 => t_X7_snap e9) gX7_kind_X7_snap rfl hd9_X7_snap rfl rfl ⟨(by decide), by decide⟩ ⟨rfl, rfl⟩ (Nat.le_of_ble_eq_true rfl) dX7_kind_39 rfl (fun h4 hf => ?_)
        refine pw_aload_n dX7_kind_42 rfl ?_
        refine q_gR hf rfl (by decide) w9_X7_kind_X7 (by decide +kernel) dX7_kind_43 (fun x5 hf => ?_)
        refine pw_iload_n dX7_kind_46 rfl ?_
        refine pw_iload_n dX7_kind_47 rfl ?_
        refine q_callS_v (kc2 := 0) (ks2 := 0) (as := [.ref x5, .int a1, .int a2]) (rest := []) hf (fun x9 e9 => t_X7_laysKind e9) gX7_kind_X7_laysKind rfl hd9_X7_laysKind rfl ⟨(by decide), by decide⟩ ⟨rfl, rfl⟩ (Nat.le_of_ble_eq_true rfl) dX7_kind_48 rfl (fun h6 hf => ?_)
        refine pw_aload_n dX7_kind_51 rfl ?_
        refine q_gR hf rfl (by decide) w9_X7_kind_X7 (by decide +kernel) dX7_kind_52 (fun x7 hf => ?_)
        refine pw_iconst (v := (0)) dX7_kind_55 (by decide) ?_
        refine q_iald hf dX7_kind_56 (fun x8 hf => ?_)
        exact pw_iret (x := x8) rfl rfl dX7_kind_57 (ret_iw hf)
      · refine pw_iconst (v := (-1)) dX7_kind_36 (by decide) ?_
        exact pw_iret (x := (-1 : Int32)) rfl rfl dX7_kind_37 (ret_iw hf)
    · refine pw_bipush (v := (8)) dX7_kind_23 (by decide) ?_
      refine pw_goto (tgt := 30) dX7_kind_25 (by decide) ?_
      refine q_callS_i (kc2 := 0) (ks2 := 0) (as := [.int a2, .int (1 : Int32), .int (8 : Int32)]) (rest := []) hf (fun x9 e9 => t_X7_isIn e9) gX7_kind_X7_isIn rfl hd9_X7_isIn rfl ⟨(by decide), by decide⟩ ⟨rfl, rfl⟩ (Nat.le_of_ble_eq_true rfl) dX7_kind_30 rfl (fun x9 hf => ?_)
      refine q_if_ne (tgt := 38) hf dX7_kind_33 (by decide) (fun hf _ => ?_) (fun hf _ => ?_)
      · refine pw_aload_n dX7_kind_38 rfl ?_
        refine q_callV_v (kc2 := 0) (ks2 := 0) (as := []) (rest := []) hf (fun x9 e9 => t_X7_snap e9) gX7_kind_X7_snap rfl hd9_X7_snap rfl rfl ⟨(by decide), by decide⟩ ⟨rfl, rfl⟩ (Nat.le_of_ble_eq_true rfl) dX7_kind_39 rfl (fun h10 hf => ?_)
        refine pw_aload_n dX7_kind_42 rfl ?_
        refine q_gR hf rfl (by decide) w9_X7_kind_X7 (by decide +kernel) dX7_kind_43 (fun x11 hf => ?_)
        refine pw_iload_n dX7_kind_46 rfl ?_
        refine pw_iload_n dX7_kind_47 rfl ?_
        refine q_callS_v (kc2 := 0) (ks2 := 0) (as := [.ref x11, .int a1, .int a2]) (rest := []) hf (fun x9 e9 => t_X7_laysKind e9) gX7_kind_X7_laysKind rfl hd9_X7_laysKind rfl ⟨(by decide), by decide⟩ ⟨rfl, rfl⟩ (Nat.le_of_ble_eq_true rfl) dX7_kind_48 rfl (fun h12 hf => ?_)
        refine pw_aload_n dX7_kind_51 rfl ?_
        refine q_gR hf rfl (by decide) w9_X7_kind_X7 (by decide +kernel) dX7_kind_52 (fun x13 hf => ?_)
        refine pw_iconst (v := (0)) dX7_kind_55 (by decide) ?_
        refine q_iald hf dX7_kind_56 (fun x14 hf => ?_)
        exact pw_iret (x := x14) rfl rfl dX7_kind_57 (ret_iw hf)
      · refine pw_iconst (v := (-1)) dX7_kind_36 (by decide) ?_
        exact pw_iret (x := (-1 : Int32)) rfl rfl dX7_kind_37 (ret_iw hf)
/-! X7_isEven -/
abbrev m_X7_isEven : MD := (cX7_isEven, RX7, "isEven", wsX7_isEven, 5, (some .boolean))
theorem hd9_X7_isEven : yX7_isEven.cls = RX7 ∧ yX7_isEven.cls ≠ "java/lang/invoke/MethodHandle" ∧ yX7_isEven.cls ≠ "java/lang/invoke/VarHandle" ∧ (parseMethodDescriptor yX7_isEven.desc).map (fun d => d.parameters.length) = some 1 := by decide +kernel
def f_X7_isEven_48 : Nat → Nat → Int32 → Int32 → Int32 → Hp → Option Int32
  | 0, _, _, _, _, _ => none
  | n + 1, v1, v2, v3, v4, h => if (15 : Int32) < v4 then ((aI h 0 v1 (2 : Int32)).bind fun x1 => (f_X7_bits h x1).bind fun x2 => if v3 = ((2 : Int32) * x2) then (if (v2 - v2 / (2 : Int32) * (2 : Int32)) = 0 then (some ((1 : Int32))) else (some ((0 : Int32)))) else (some ((0 : Int32)))) else ((f_X7_isTold h v1 v4).bind fun x3 => if x3 = 0 then (f_X7_isEven_48 n v1 v2 v3 (v4 + (1)) h) else (f_X7_isEven_48 n v1 (v2 - v4) v3 (v4 + (1)) h))
set_option maxHeartbeats 4000000 in
set_option maxRecDepth 100000 in
theorem w_X7_isEven_48 {g : GT} {l : Launch} {r : Int32} : ∀ (n : Nat) (v1 : Nat) (v2 : Int32) (v3 : Int32) (v4 : Int32) (h : Hp), f_X7_isEven_48 n v1 v2 v3 v4 h = some r → PW g l m_X7_isEven 3 0 0 48 [none, some (.ref v1), some (.int v2), some (.int v3), some (.int v4)] [] h (fun r9 h9 => r9 = some (.int r) ∧ h9 = h) := by
  intro n
  induction n with
  | zero => intro v1 v2 v3 v4 h hf; cases hf
  | succ n ih =>
    intro v1 v2 v3 v4 h hf
    rw [f_X7_isEven_48] at hf
    refine pw_iload dX7_isEven_48 rfl ?_
    refine pw_bipush (v := (15)) dX7_isEven_50 (by decide) ?_
    refine q_icmp_gt (tgt := 75) hf dX7_isEven_52 (by decide) (fun hf _ => ?_) (fun hf _ => ?_)
    · refine pw_iload_n dX7_isEven_75 rfl ?_
      refine pw_iconst (v := (2)) dX7_isEven_76 (by decide) ?_
      refine pw_aload_n dX7_isEven_77 rfl ?_
      refine pw_iconst (v := (2)) dX7_isEven_78 (by decide) ?_
      refine q_iald hf dX7_isEven_79 (fun x1 hf => ?_)
      refine q_callS_i (kc2 := 0) (ks2 := 0) (as := [.int x1]) (rest := [.int (2 : Int32), .int v3]) hf (fun x9 e9 => t_X7_bits e9) gX7_isEven_X7_bits rfl hd9_X7_bits rfl ⟨(by decide), by decide⟩ ⟨rfl, rfl⟩ (Nat.le_of_ble_eq_true rfl) dX7_isEven_80 rfl (fun x2 hf => ?_)
      refine pw_imul dX7_isEven_83 ?_
      refine q_icmp_ne (tgt := 97) hf dX7_isEven_84 (by decide) (fun hf _ => ?_) (fun hf _ => ?_)
      · refine pw_iconst (v := (0)) dX7_isEven_97 (by decide) ?_
        exact pw_iret (x := (0 : Int32)) rfl rfl dX7_isEven_98 ⟨congrArg (fun z => some (Value.int z)) (Option.some.inj hf), rfl⟩
      · refine pw_iload_n dX7_isEven_87 rfl ?_
        refine pw_iconst (v := (2)) dX7_isEven_88 (by decide) ?_
        refine pw_irem dX7_isEven_89 (by decide) ?_
        refine q_if_ne (tgt := 97) hf dX7_isEven_90 (by decide) (fun hf _ => ?_) (fun hf _ => ?_)
        · refine pw_iconst (v := (0)) dX7_isEven_97 (by decide) ?_
          exact pw_iret (x := (0 : Int32)) rfl rfl dX7_isEven_98 ⟨congrArg (fun z => some (Value.int z)) (Option.some.inj hf), rfl⟩
        · refine pw_iconst (v := (1)) dX7_isEven_93 (by decide) ?_
          refine pw_goto (tgt := 98) dX7_isEven_94 (by decide) ?_
          exact pw_iret (x := (1 : Int32)) rfl rfl dX7_isEven_98 ⟨congrArg (fun z => some (Value.int z)) (Option.some.inj hf), rfl⟩
    · refine pw_aload_n dX7_isEven_55 rfl ?_
      refine pw_iload dX7_isEven_56 rfl ?_
      refine q_callS_i (kc2 := 0) (ks2 := 0) (as := [.ref v1, .int v4]) (rest := []) hf (fun x9 e9 => t_X7_isTold e9) gX7_isEven_X7_isTold rfl hd9_X7_isTold rfl ⟨(by decide), by decide⟩ ⟨rfl, rfl⟩ (Nat.le_of_ble_eq_true rfl) dX7_isEven_58 rfl (fun x3 hf => ?_)
      refine q_if_eq (tgt := 69) hf dX7_isEven_61 (by decide) (fun hf _ => ?_) (fun hf _ => ?_)
      · refine pw_iinc (v := v4 + (1)) dX7_isEven_69 rfl rfl (by decide) rfl ?_
        dsimp only [lset, lset2, clr]
        refine pw_goto (tgt := 48) dX7_isEven_72 (by decide) ?_
        exact pw_lo (lle_n (lle_s rfl (lle_s rfl (lle_s rfl (lle_s rfl lle_0))))) (ih _ _ _ _ _ hf)
      · refine pw_iload_n dX7_isEven_64 rfl ?_
        refine pw_iload dX7_isEven_65 rfl ?_
        refine pw_isub dX7_isEven_67 ?_
        refine pw_istore_n dX7_isEven_68 (by decide) rfl ?_
        dsimp only [lset, lset2, clr]
        refine pw_iinc (v := v4 + (1)) dX7_isEven_69 rfl rfl (by decide) rfl ?_
        dsimp only [lset, lset2, clr]
        refine pw_goto (tgt := 48) dX7_isEven_72 (by decide) ?_
        exact pw_lo (lle_n (lle_s rfl (lle_s rfl (lle_s rfl (lle_s rfl lle_0))))) (ih _ _ _ _ _ hf)
def f_X7_isEven_7 : Nat → Nat → Int32 → Int32 → Int32 → Hp → Option Int32
  | 0, _, _, _, _, _ => none
  | n + 1, v1, v2, v3, v4, h => (aI h 0 v1 (0 : Int32)).bind fun x1 => if x1 < v4 then (f_X7_isEven_48 4096 v1 v2 v3 (1 : Int32) h) else ((aI h 0 v1 (1 : Int32)).bind fun x2 => (f_X7_has h x2 (v4 - (1 : Int32))).bind fun x3 => if x3 = 0 then (f_X7_isEven_7 n v1 (v2 + v4) (v3 + (1)) (v4 + (1)) h) else (f_X7_isEven_7 n v1 v2 v3 (v4 + (1)) h))
set_option maxHeartbeats 4000000 in
set_option maxRecDepth 100000 in
theorem w_X7_isEven_7 {g : GT} {l : Launch} {r : Int32} : ∀ (n : Nat) (v1 : Nat) (v2 : Int32) (v3 : Int32) (v4 : Int32) (h : Hp), f_X7_isEven_7 n v1 v2 v3 v4 h = some r → PW g l m_X7_isEven 3 0 0 7 [none, some (.ref v1), some (.int v2), some (.int v3), some (.int v4)] [] h (fun r9 h9 => r9 = some (.int r) ∧ h9 = h) := by
  intro n
  induction n with
  | zero => intro v1 v2 v3 v4 h hf; cases hf
  | succ n ih =>
    intro v1 v2 v3 v4 h hf
    rw [f_X7_isEven_7] at hf
    refine pw_iload dX7_isEven_7 rfl ?_
    refine pw_aload_n dX7_isEven_9 rfl ?_
    refine pw_iconst (v := (0)) dX7_isEven_10 (by decide) ?_
    refine q_iald hf dX7_isEven_11 (fun x1 hf => ?_)
    refine q_icmp_gt (tgt := 45) hf dX7_isEven_12 (by decide) (fun hf _ => ?_) (fun hf _ => ?_)
    · refine pw_iconst (v := (1)) dX7_isEven_45 (by decide) ?_
      refine pw_istore dX7_isEven_46 (by decide) rfl ?_
      dsimp only [lset, lset2, clr]
      exact pw_lo (lle_n (lle_s rfl (lle_s rfl (lle_s rfl (lle_s rfl lle_0))))) (w_X7_isEven_48 4096 _ _ _ _ _ hf)
    · refine pw_aload_n dX7_isEven_15 rfl ?_
      refine pw_iconst (v := (1)) dX7_isEven_16 (by decide) ?_
      refine q_iald hf dX7_isEven_17 (fun x2 hf => ?_)
      refine pw_iload dX7_isEven_18 rfl ?_
      refine pw_iconst (v := (1)) dX7_isEven_20 (by decide) ?_
      refine pw_isub dX7_isEven_21 ?_
      refine q_callS_i (kc2 := 0) (ks2 := 0) (as := [.int x2, .int (v4 - (1 : Int32))]) (rest := []) hf (fun x9 e9 => t_X7_has e9) gX7_isEven_X7_has rfl hd9_X7_has rfl ⟨(by decide), by decide⟩ ⟨rfl, rfl⟩ (Nat.le_of_ble_eq_true rfl) dX7_isEven_22 rfl (fun x3 hf => ?_)
      refine q_if_eq (tgt := 31) hf dX7_isEven_25 (by decide) (fun hf _ => ?_) (fun hf _ => ?_)
      · refine pw_iinc (v := v3 + (1)) dX7_isEven_31 rfl rfl (by decide) rfl ?_
        dsimp only [lset, lset2, clr]
        refine pw_iload_n dX7_isEven_34 rfl ?_
        refine pw_iload dX7_isEven_35 rfl ?_
        refine pw_iadd dX7_isEven_37 ?_
        refine pw_istore_n dX7_isEven_38 (by decide) rfl ?_
        dsimp only [lset, lset2, clr]
        refine pw_iinc (v := v4 + (1)) dX7_isEven_39 rfl rfl (by decide) rfl ?_
        dsimp only [lset, lset2, clr]
        refine pw_goto (tgt := 7) dX7_isEven_42 (by decide) ?_
        exact pw_lo (lle_n (lle_s rfl (lle_s rfl (lle_s rfl (lle_s rfl lle_0))))) (ih _ _ _ _ _ hf)
      · refine pw_goto (tgt := 39) dX7_isEven_28 (by decide) ?_
        refine pw_iinc (v := v4 + (1)) dX7_isEven_39 rfl rfl (by decide) rfl ?_
        dsimp only [lset, lset2, clr]
        refine pw_goto (tgt := 7) dX7_isEven_42 (by decide) ?_
        exact pw_lo (lle_n (lle_s rfl (lle_s rfl (lle_s rfl (lle_s rfl lle_0))))) (ih _ _ _ _ _ hf)
def f_X7_isEven (h : Hp) (a0 : Nat) (a1 : Nat) : Option Int32 := f_X7_isEven_7 4096 a1 (0 : Int32) (0 : Int32) (1 : Int32) h
set_option maxHeartbeats 4000000 in
set_option maxRecDepth 100000 in
theorem t_X7_isEven {g : GT} {l : Launch} {h : Hp} {a0 : Nat} {a1 : Nat} {r : Int32} (hf : f_X7_isEven h a0 a1 = some r) : PM g l 3 0 0 yX7_isEven wsX7_isEven [.ref a0, .ref a1] h (fun r9 h9 => r9 = some (.int r) ∧ h9 = h) := by
  refine pm_of (M := m_X7_isEven) (by decide) rfl rfl rfl (Nat.le_of_ble_eq_true rfl) (lo := [some (.ref a0), some (.ref a1), none, none, none]) rfl ?_
  rw [f_X7_isEven] at hf
  refine pw_iconst (v := (0)) dX7_isEven_0 (by decide) ?_
  refine pw_istore_n dX7_isEven_1 (by decide) rfl ?_
  dsimp only [lset, lset2, clr]
  refine pw_iconst (v := (0)) dX7_isEven_2 (by decide) ?_
  refine pw_istore_n dX7_isEven_3 (by decide) rfl ?_
  dsimp only [lset, lset2, clr]
  refine pw_iconst (v := (1)) dX7_isEven_4 (by decide) ?_
  refine pw_istore dX7_isEven_5 (by decide) rfl ?_
  dsimp only [lset, lset2, clr]
  exact pw_lo (lle_n (lle_s rfl (lle_s rfl (lle_s rfl (lle_s rfl lle_0))))) (w_X7_isEven_7 4096 _ _ _ _ _ hf)
/-! X7_counts -/
abbrev m_X7_counts : MD := (cX7_counts, RX7, "counts", wsX7_counts, 5, none)
theorem w9_X7_counts_X7 : ∀ w ∈ u_ws RX7 TX7 31, w ∈ wsX7_counts := by decide +kernel
theorem hd9_X7_counts : yX7_counts.cls = RX7 ∧ yX7_counts.cls ≠ "java/lang/invoke/MethodHandle" ∧ yX7_counts.cls ≠ "java/lang/invoke/VarHandle" ∧ (parseMethodDescriptor yX7_counts.desc).map (fun d => d.parameters.length) = some 1 := by decide +kernel
def f_X7_counts_4 : Nat → Nat → Nat → Int32 → Int32 → Hp → Option Hp
  | 0, _, _, _, _, _ => none
  | n + 1, v0, v1, v2, v3, h => (aI h 0 v1 (0 : Int32)).bind fun x1 => if x1 ≤ v3 then (if v2 = 0 then ((gI h v0 7 24).bind fun x2 => (pV h v0 7 24 (.int (x2 + (1 : Int32)))).bind fun h3 => some h3) else ((gI h v0 7 24).bind fun x4 => (pV h v0 7 26 (.int x4)).bind fun h5 => (gI h5 v0 7 24).bind fun x6 => (pV h5 v0 7 24 (.int (x6 + (1 : Int32)))).bind fun h7 => some h7)) else ((gI h v0 7 24).bind fun x8 => (gI h v0 7 25).bind fun x9 => if x8 = x9 then ((gR h v0 7 21).bind fun x38 => (gR h v0 7 20).bind fun x39 => (aI h 0 x39 v3).bind fun x40 => (sI h 0 x38 v3 x40).bind fun h41 => if v2 = 0 then ((gR h41 v0 7 20).bind fun x42 => (aI h41 0 x42 v3).bind fun x43 => if x43 ≤ 0 then (f_X7_counts_4 n v0 v1 (0 : Int32) (v3 + (1)) h41) else ((aI h41 0 v1 (0 : Int32)).bind fun x44 => if x44 ≤ (v3 + x43) then (f_X7_counts_4 n v0 v1 (0 : Int32) (v3 + (1)) h41) else ((gR h41 v0 7 20).bind fun x45 => (aI h41 0 x45 (v3 + x43)).bind fun x46 => if x46 = x43 then ((gR h41 v0 7 23).bind fun x47 => (aI h41 0 x47 (((20 : Int32) * x43) + v3)).bind fun x48 => (sI h41 0 x47 (((20 : Int32) * x43) + v3) (x48 + (1 : Int32))).bind fun h49 => f_X7_counts_4 n v0 v1 (0 : Int32) (v3 + (1)) h49) else (f_X7_counts_4 n v0 v1 (0 : Int32) (v3 + (1)) h41)))) else ((gR h41 v0 7 20).bind fun x50 => (aI h41 0 x50 v3).bind fun x51 => (gR h41 v0 7 22).bind fun x52 => (aI h41 0 x52 v3).bind fun x53 => if x51 = x53 then ((gR h41 v0 7 20).bind fun x62 => (aI h41 0 x62 v3).bind fun x63 => if x63 ≤ 0 then (f_X7_counts_4 n v0 v1 (1 : Int32) (v3 + (1)) h41) else ((aI h41 0 v1 (0 : Int32)).bind fun x64 => if x64 ≤ (v3 + x63) then (f_X7_counts_4 n v0 v1 (1 : Int32) (v3 + (1)) h41) else ((gR h41 v0 7 20).bind fun x65 => (aI h41 0 x65 (v3 + x63)).bind fun x66 => if x66 = x63 then ((gR h41 v0 7 23).bind fun x67 => (aI h41 0 x67 (((20 : Int32) * x63) + v3)).bind fun x68 => (sI h41 0 x67 (((20 : Int32) * x63) + v3) (x68 + (1 : Int32))).bind fun h69 => f_X7_counts_4 n v0 v1 (1 : Int32) (v3 + (1)) h69) else (f_X7_counts_4 n v0 v1 (1 : Int32) (v3 + (1)) h41)))) else ((gR h41 v0 7 20).bind fun x54 => (aI h41 0 x54 v3).bind fun x55 => if x55 ≤ 0 then (f_X7_counts_4 n v0 v1 (0 : Int32) (v3 + (1)) h41) else ((aI h41 0 v1 (0 : Int32)).bind fun x56 => if x56 ≤ (v3 + x55) then (f_X7_counts_4 n v0 v1 (0 : Int32) (v3 + (1)) h41) else ((gR h41 v0 7 20).bind fun x57 => (aI h41 0 x57 (v3 + x55)).bind fun x58 => if x58 = x55 then ((gR h41 v0 7 23).bind fun x59 => (aI h41 0 x59 (((20 : Int32) * x55) + v3)).bind fun x60 => (sI h41 0 x59 (((20 : Int32) * x55) + v3) (x60 + (1 : Int32))).bind fun h61 => f_X7_counts_4 n v0 v1 (0 : Int32) (v3 + (1)) h61) else (f_X7_counts_4 n v0 v1 (0 : Int32) (v3 + (1)) h41)))))) else (if v2 = 0 then ((gR h v0 7 20).bind fun x10 => (aI h 0 x10 v3).bind fun x11 => if x11 ≤ 0 then (f_X7_counts_4 n v0 v1 (0 : Int32) (v3 + (1)) h) else ((aI h 0 v1 (0 : Int32)).bind fun x12 => if x12 ≤ (v3 + x11) then (f_X7_counts_4 n v0 v1 (0 : Int32) (v3 + (1)) h) else ((gR h v0 7 20).bind fun x13 => (aI h 0 x13 (v3 + x11)).bind fun x14 => if x14 = x11 then ((gR h v0 7 23).bind fun x15 => (aI h 0 x15 (((20 : Int32) * x11) + v3)).bind fun x16 => (sI h 0 x15 (((20 : Int32) * x11) + v3) (x16 + (1 : Int32))).bind fun h17 => f_X7_counts_4 n v0 v1 (0 : Int32) (v3 + (1)) h17) else (f_X7_counts_4 n v0 v1 (0 : Int32) (v3 + (1)) h)))) else ((gR h v0 7 20).bind fun x18 => (aI h 0 x18 v3).bind fun x19 => (gR h v0 7 22).bind fun x20 => (aI h 0 x20 v3).bind fun x21 => if x19 = x21 then ((gR h v0 7 20).bind fun x30 => (aI h 0 x30 v3).bind fun x31 => if x31 ≤ 0 then (f_X7_counts_4 n v0 v1 (1 : Int32) (v3 + (1)) h) else ((aI h 0 v1 (0 : Int32)).bind fun x32 => if x32 ≤ (v3 + x31) then (f_X7_counts_4 n v0 v1 (1 : Int32) (v3 + (1)) h) else ((gR h v0 7 20).bind fun x33 => (aI h 0 x33 (v3 + x31)).bind fun x34 => if x34 = x31 then ((gR h v0 7 23).bind fun x35 => (aI h 0 x35 (((20 : Int32) * x31) + v3)).bind fun x36 => (sI h 0 x35 (((20 : Int32) * x31) + v3) (x36 + (1 : Int32))).bind fun h37 => f_X7_counts_4 n v0 v1 (1 : Int32) (v3 + (1)) h37) else (f_X7_counts_4 n v0 v1 (1 : Int32) (v3 + (1)) h)))) else ((gR h v0 7 20).bind fun x22 => (aI h 0 x22 v3).bind fun x23 => if x23 ≤ 0 then (f_X7_counts_4 n v0 v1 (0 : Int32) (v3 + (1)) h) else ((aI h 0 v1 (0 : Int32)).bind fun x24 => if x24 ≤ (v3 + x23) then (f_X7_counts_4 n v0 v1 (0 : Int32) (v3 + (1)) h) else ((gR h v0 7 20).bind fun x25 => (aI h 0 x25 (v3 + x23)).bind fun x26 => if x26 = x23 then ((gR h v0 7 23).bind fun x27 => (aI h 0 x27 (((20 : Int32) * x23) + v3)).bind fun x28 => (sI h 0 x27 (((20 : Int32) * x23) + v3) (x28 + (1 : Int32))).bind fun h29 => f_X7_counts_4 n v0 v1 (0 : Int32) (v3 + (1)) h29) else (f_X7_counts_4 n v0 v1 (0 : Int32) (v3 + (1)) h)))))))
set_option maxHeartbeats 4000000 in
set_option maxRecDepth 100000 in
theorem w_X7_counts_4 {g : GT} {l : Launch} {r : Hp} : ∀ (n : Nat) (v0 : Nat) (v1 : Nat) (v2 : Int32) (v3 : Int32) (h : Hp), f_X7_counts_4 n v0 v1 v2 v3 h = some r → PW g l m_X7_counts 1 0 0 4 [some (.ref v0), some (.ref v1), some (.int v2), some (.int v3), none] [] h (fun r9 h9 => r9 = none ∧ h9 = r) := by
  intro n
  induction n with
  | zero => intro v0 v1 v2 v3 h hf; cases hf
  | succ n ih =>
    intro v0 v1 v2 v3 h hf
    rw [f_X7_counts_4] at hf
    refine pw_iload_n dX7_counts_4 rfl ?_
    refine pw_aload_n dX7_counts_5 rfl ?_
    refine pw_iconst (v := (0)) dX7_counts_6 (by decide) ?_
    refine q_iald hf dX7_counts_7 (fun x1 hf => ?_)
    refine q_icmp_ge (tgt := 118) hf dX7_counts_8 (by decide) (fun hf _ => ?_) (fun hf _ => ?_)
    · refine pw_iload_n dX7_counts_118 rfl ?_
      refine q_if_eq (tgt := 130) hf dX7_counts_119 (by decide) (fun hf _ => ?_) (fun hf _ => ?_)
      · refine pw_aload_n dX7_counts_130 rfl ?_
        refine pw_dup dX7_counts_131 rfl ?_
        refine q_gI hf rfl (by decide) w9_X7_counts_X7 (by decide +kernel) dX7_counts_132 (fun x2 hf => ?_)
        refine pw_iconst (v := (1)) dX7_counts_135 (by decide) ?_
        refine pw_iadd dX7_counts_136 ?_
        refine q_pV (ty := .int) hf tyX7 tyX7_ok nmX7 rfl (by decide) w9_X7_counts_X7 (by decide +kernel) rfl (by decide +kernel) rfl rfl dX7_counts_137 (fun h3 hf => ?_)
        exact pw_vret rfl dX7_counts_140 ⟨rfl, Option.some.inj hf⟩
      · refine pw_aload_n dX7_counts_122 rfl ?_
        refine pw_aload_n dX7_counts_123 rfl ?_
        refine q_gI hf rfl (by decide) w9_X7_counts_X7 (by decide +kernel) dX7_counts_124 (fun x4 hf => ?_)
        refine q_pV (ty := .int) hf tyX7 tyX7_ok nmX7 rfl (by decide) w9_X7_counts_X7 (by decide +kernel) rfl (by decide +kernel) rfl rfl dX7_counts_127 (fun h5 hf => ?_)
        refine pw_aload_n dX7_counts_130 rfl ?_
        refine pw_dup dX7_counts_131 rfl ?_
        refine q_gI hf rfl (by decide) w9_X7_counts_X7 (by decide +kernel) dX7_counts_132 (fun x6 hf => ?_)
        refine pw_iconst (v := (1)) dX7_counts_135 (by decide) ?_
        refine pw_iadd dX7_counts_136 ?_
        refine q_pV (ty := .int) hf tyX7 tyX7_ok nmX7 rfl (by decide) w9_X7_counts_X7 (by decide +kernel) rfl (by decide +kernel) rfl rfl dX7_counts_137 (fun h7 hf => ?_)
        exact pw_vret rfl dX7_counts_140 ⟨rfl, Option.some.inj hf⟩
    · refine pw_aload_n dX7_counts_11 rfl ?_
      refine q_gI hf rfl (by decide) w9_X7_counts_X7 (by decide +kernel) dX7_counts_12 (fun x8 hf => ?_)
      refine pw_aload_n dX7_counts_15 rfl ?_
      refine q_gI hf rfl (by decide) w9_X7_counts_X7 (by decide +kernel) dX7_counts_16 (fun x9 hf => ?_)
      refine q_icmp_ne (tgt := 34) hf dX7_counts_19 (by decide) (fun hf _ => ?_) (fun hf _ => ?_)
      · refine pw_iload_n dX7_counts_34 rfl ?_
        refine q_if_eq (tgt := 57) hf dX7_counts_35 (by decide) (fun hf _ => ?_) (fun hf _ => ?_)
        · refine pw_iconst (v := (0)) dX7_counts_57 (by decide) ?_
          refine pw_istore_n dX7_counts_58 (by decide) rfl ?_
          dsimp only [lset, lset2, clr]
          refine pw_aload_n dX7_counts_59 rfl ?_
          refine q_gR hf rfl (by decide) w9_X7_counts_X7 (by decide +kernel) dX7_counts_60 (fun x10 hf => ?_)
          refine pw_iload_n dX7_counts_63 rfl ?_
          refine q_iald hf dX7_counts_64 (fun x11 hf => ?_)
          refine pw_istore dX7_counts_65 (by decide) rfl ?_
          dsimp only [lset, lset2, clr]
          refine pw_iload dX7_counts_67 rfl ?_
          refine q_if_le (tgt := 112) hf dX7_counts_69 (by decide) (fun hf _ => ?_) (fun hf _ => ?_)
          · refine pw_iinc (v := v3 + (1)) dX7_counts_112 rfl rfl (by decide) rfl ?_
            dsimp only [lset, lset2, clr]
            refine pw_goto (tgt := 4) dX7_counts_115 (by decide) ?_
            exact pw_lo (lle_s rfl (lle_s rfl (lle_s rfl (lle_s rfl (lle_n lle_0))))) (ih _ _ _ _ _ hf)
          · refine pw_iload_n dX7_counts_72 rfl ?_
            refine pw_iload dX7_counts_73 rfl ?_
            refine pw_iadd dX7_counts_75 ?_
            refine pw_aload_n dX7_counts_76 rfl ?_
            refine pw_iconst (v := (0)) dX7_counts_77 (by decide) ?_
            refine q_iald hf dX7_counts_78 (fun x12 hf => ?_)
            refine q_icmp_ge (tgt := 112) hf dX7_counts_79 (by decide) (fun hf _ => ?_) (fun hf _ => ?_)
            · refine pw_iinc (v := v3 + (1)) dX7_counts_112 rfl rfl (by decide) rfl ?_
              dsimp only [lset, lset2, clr]
              refine pw_goto (tgt := 4) dX7_counts_115 (by decide) ?_
              exact pw_lo (lle_s rfl (lle_s rfl (lle_s rfl (lle_s rfl (lle_n lle_0))))) (ih _ _ _ _ _ hf)
            · refine pw_aload_n dX7_counts_82 rfl ?_
              refine q_gR hf rfl (by decide) w9_X7_counts_X7 (by decide +kernel) dX7_counts_83 (fun x13 hf => ?_)
              refine pw_iload_n dX7_counts_86 rfl ?_
              refine pw_iload dX7_counts_87 rfl ?_
              refine pw_iadd dX7_counts_89 ?_
              refine q_iald hf dX7_counts_90 (fun x14 hf => ?_)
              refine pw_iload dX7_counts_91 rfl ?_
              refine q_icmp_ne (tgt := 112) hf dX7_counts_93 (by decide) (fun hf _ => ?_) (fun hf _ => ?_)
              · refine pw_iinc (v := v3 + (1)) dX7_counts_112 rfl rfl (by decide) rfl ?_
                dsimp only [lset, lset2, clr]
                refine pw_goto (tgt := 4) dX7_counts_115 (by decide) ?_
                exact pw_lo (lle_s rfl (lle_s rfl (lle_s rfl (lle_s rfl (lle_n lle_0))))) (ih _ _ _ _ _ hf)
              · refine pw_aload_n dX7_counts_96 rfl ?_
                refine q_gR hf rfl (by decide) w9_X7_counts_X7 (by decide +kernel) dX7_counts_97 (fun x15 hf => ?_)
                refine pw_bipush (v := (20)) dX7_counts_100 (by decide) ?_
                refine pw_iload dX7_counts_102 rfl ?_
                refine pw_imul dX7_counts_104 ?_
                refine pw_iload_n dX7_counts_105 rfl ?_
                refine pw_iadd dX7_counts_106 ?_
                refine pw_dup2 dX7_counts_107 ⟨rfl, rfl⟩ ?_
                refine q_iald hf dX7_counts_108 (fun x16 hf => ?_)
                refine pw_iconst (v := (1)) dX7_counts_109 (by decide) ?_
                refine pw_iadd dX7_counts_110 ?_
                refine q_iast hf dX7_counts_111 (fun h17 hf => ?_)
                refine pw_iinc (v := v3 + (1)) dX7_counts_112 rfl rfl (by decide) rfl ?_
                dsimp only [lset, lset2, clr]
                refine pw_goto (tgt := 4) dX7_counts_115 (by decide) ?_
                exact pw_lo (lle_s rfl (lle_s rfl (lle_s rfl (lle_s rfl (lle_n lle_0))))) (ih _ _ _ _ _ hf)
        · refine pw_aload_n dX7_counts_38 rfl ?_
          refine q_gR hf rfl (by decide) w9_X7_counts_X7 (by decide +kernel) dX7_counts_39 (fun x18 hf => ?_)
          refine pw_iload_n dX7_counts_42 rfl ?_
          refine q_iald hf dX7_counts_43 (fun x19 hf => ?_)
          refine pw_aload_n dX7_counts_44 rfl ?_
          refine q_gR hf rfl (by decide) w9_X7_counts_X7 (by decide +kernel) dX7_counts_45 (fun x20 hf => ?_)
          refine pw_iload_n dX7_counts_48 rfl ?_
          refine q_iald hf dX7_counts_49 (fun x21 hf => ?_)
          refine q_icmp_ne (tgt := 57) hf dX7_counts_50 (by decide) (fun hf _ => ?_) (fun hf _ => ?_)
          · refine pw_iconst (v := (0)) dX7_counts_57 (by decide) ?_
            refine pw_istore_n dX7_counts_58 (by decide) rfl ?_
            dsimp only [lset, lset2, clr]
            refine pw_aload_n dX7_counts_59 rfl ?_
            refine q_gR hf rfl (by decide) w9_X7_counts_X7 (by decide +kernel) dX7_counts_60 (fun x22 hf => ?_)
            refine pw_iload_n dX7_counts_63 rfl ?_
            refine q_iald hf dX7_counts_64 (fun x23 hf => ?_)
            refine pw_istore dX7_counts_65 (by decide) rfl ?_
            dsimp only [lset, lset2, clr]
            refine pw_iload dX7_counts_67 rfl ?_
            refine q_if_le (tgt := 112) hf dX7_counts_69 (by decide) (fun hf _ => ?_) (fun hf _ => ?_)
            · refine pw_iinc (v := v3 + (1)) dX7_counts_112 rfl rfl (by decide) rfl ?_
              dsimp only [lset, lset2, clr]
              refine pw_goto (tgt := 4) dX7_counts_115 (by decide) ?_
              exact pw_lo (lle_s rfl (lle_s rfl (lle_s rfl (lle_s rfl (lle_n lle_0))))) (ih _ _ _ _ _ hf)
            · refine pw_iload_n dX7_counts_72 rfl ?_
              refine pw_iload dX7_counts_73 rfl ?_
              refine pw_iadd dX7_counts_75 ?_
              refine pw_aload_n dX7_counts_76 rfl ?_
              refine pw_iconst (v := (0)) dX7_counts_77 (by decide) ?_
              refine q_iald hf dX7_counts_78 (fun x24 hf => ?_)
              refine q_icmp_ge (tgt := 112) hf dX7_counts_79 (by decide) (fun hf _ => ?_) (fun hf _ => ?_)
              · refine pw_iinc (v := v3 + (1)) dX7_counts_112 rfl rfl (by decide) rfl ?_
                dsimp only [lset, lset2, clr]
                refine pw_goto (tgt := 4) dX7_counts_115 (by decide) ?_
                exact pw_lo (lle_s rfl (lle_s rfl (lle_s rfl (lle_s rfl (lle_n lle_0))))) (ih _ _ _ _ _ hf)
              · refine pw_aload_n dX7_counts_82 rfl ?_
                refine q_gR hf rfl (by decide) w9_X7_counts_X7 (by decide +kernel) dX7_counts_83 (fun x25 hf => ?_)
                refine pw_iload_n dX7_counts_86 rfl ?_
                refine pw_iload dX7_counts_87 rfl ?_
                refine pw_iadd dX7_counts_89 ?_
                refine q_iald hf dX7_counts_90 (fun x26 hf => ?_)
                refine pw_iload dX7_counts_91 rfl ?_
                refine q_icmp_ne (tgt := 112) hf dX7_counts_93 (by decide) (fun hf _ => ?_) (fun hf _ => ?_)
                · refine pw_iinc (v := v3 + (1)) dX7_counts_112 rfl rfl (by decide) rfl ?_
                  dsimp only [lset, lset2, clr]
                  refine pw_goto (tgt := 4) dX7_counts_115 (by decide) ?_
                  exact pw_lo (lle_s rfl (lle_s rfl (lle_s rfl (lle_s rfl (lle_n lle_0))))) (ih _ _ _ _ _ hf)
                · refine pw_aload_n dX7_counts_96 rfl ?_
                  refine q_gR hf rfl (by decide) w9_X7_counts_X7 (by decide +kernel) dX7_counts_97 (fun x27 hf => ?_)
                  refine pw_bipush (v := (20)) dX7_counts_100 (by decide) ?_
                  refine pw_iload dX7_counts_102 rfl ?_
                  refine pw_imul dX7_counts_104 ?_
                  refine pw_iload_n dX7_counts_105 rfl ?_
                  refine pw_iadd dX7_counts_106 ?_
                  refine pw_dup2 dX7_counts_107 ⟨rfl, rfl⟩ ?_
                  refine q_iald hf dX7_counts_108 (fun x28 hf => ?_)
                  refine pw_iconst (v := (1)) dX7_counts_109 (by decide) ?_
                  refine pw_iadd dX7_counts_110 ?_
                  refine q_iast hf dX7_counts_111 (fun h29 hf => ?_)
                  refine pw_iinc (v := v3 + (1)) dX7_counts_112 rfl rfl (by decide) rfl ?_
                  dsimp only [lset, lset2, clr]
                  refine pw_goto (tgt := 4) dX7_counts_115 (by decide) ?_
                  exact pw_lo (lle_s rfl (lle_s rfl (lle_s rfl (lle_s rfl (lle_n lle_0))))) (ih _ _ _ _ _ hf)
          · refine pw_iconst (v := (1)) dX7_counts_53 (by decide) ?_
            refine pw_goto (tgt := 58) dX7_counts_54 (by decide) ?_
            refine pw_istore_n dX7_counts_58 (by decide) rfl ?_
            dsimp only [lset, lset2, clr]
            refine pw_aload_n dX7_counts_59 rfl ?_
            refine q_gR hf rfl (by decide) w9_X7_counts_X7 (by decide +kernel) dX7_counts_60 (fun x30 hf => ?_)
            refine pw_iload_n dX7_counts_63 rfl ?_
            refine q_iald hf dX7_counts_64 (fun x31 hf => ?_)
            refine pw_istore dX7_counts_65 (by decide) rfl ?_
            dsimp only [lset, lset2, clr]
            refine pw_iload dX7_counts_67 rfl ?_
            refine q_if_le (tgt := 112) hf dX7_counts_69 (by decide) (fun hf _ => ?_) (fun hf _ => ?_)
            · refine pw_iinc (v := v3 + (1)) dX7_counts_112 rfl rfl (by decide) rfl ?_
              dsimp only [lset, lset2, clr]
              refine pw_goto (tgt := 4) dX7_counts_115 (by decide) ?_
              exact pw_lo (lle_s rfl (lle_s rfl (lle_s rfl (lle_s rfl (lle_n lle_0))))) (ih _ _ _ _ _ hf)
            · refine pw_iload_n dX7_counts_72 rfl ?_
              refine pw_iload dX7_counts_73 rfl ?_
              refine pw_iadd dX7_counts_75 ?_
              refine pw_aload_n dX7_counts_76 rfl ?_
              refine pw_iconst (v := (0)) dX7_counts_77 (by decide) ?_
              refine q_iald hf dX7_counts_78 (fun x32 hf => ?_)
              refine q_icmp_ge (tgt := 112) hf dX7_counts_79 (by decide) (fun hf _ => ?_) (fun hf _ => ?_)
              · refine pw_iinc (v := v3 + (1)) dX7_counts_112 rfl rfl (by decide) rfl ?_
                dsimp only [lset, lset2, clr]
                refine pw_goto (tgt := 4) dX7_counts_115 (by decide) ?_
                exact pw_lo (lle_s rfl (lle_s rfl (lle_s rfl (lle_s rfl (lle_n lle_0))))) (ih _ _ _ _ _ hf)
              · refine pw_aload_n dX7_counts_82 rfl ?_
                refine q_gR hf rfl (by decide) w9_X7_counts_X7 (by decide +kernel) dX7_counts_83 (fun x33 hf => ?_)
                refine pw_iload_n dX7_counts_86 rfl ?_
                refine pw_iload dX7_counts_87 rfl ?_
                refine pw_iadd dX7_counts_89 ?_
                refine q_iald hf dX7_counts_90 (fun x34 hf => ?_)
                refine pw_iload dX7_counts_91 rfl ?_
                refine q_icmp_ne (tgt := 112) hf dX7_counts_93 (by decide) (fun hf _ => ?_) (fun hf _ => ?_)
                · refine pw_iinc (v := v3 + (1)) dX7_counts_112 rfl rfl (by decide) rfl ?_
                  dsimp only [lset, lset2, clr]
                  refine pw_goto (tgt := 4) dX7_counts_115 (by decide) ?_
                  exact pw_lo (lle_s rfl (lle_s rfl (lle_s rfl (lle_s rfl (lle_n lle_0))))) (ih _ _ _ _ _ hf)
                · refine pw_aload_n dX7_counts_96 rfl ?_
                  refine q_gR hf rfl (by decide) w9_X7_counts_X7 (by decide +kernel) dX7_counts_97 (fun x35 hf => ?_)
                  refine pw_bipush (v := (20)) dX7_counts_100 (by decide) ?_
                  refine pw_iload dX7_counts_102 rfl ?_
                  refine pw_imul dX7_counts_104 ?_
                  refine pw_iload_n dX7_counts_105 rfl ?_
                  refine pw_iadd dX7_counts_106 ?_
                  refine pw_dup2 dX7_counts_107 ⟨rfl, rfl⟩ ?_
                  refine q_iald hf dX7_counts_108 (fun x36 hf => ?_)
                  refine pw_iconst (v := (1)) dX7_counts_109 (by decide) ?_
                  refine pw_iadd dX7_counts_110 ?_
                  refine q_iast hf dX7_counts_111 (fun h37 hf => ?_)
                  refine pw_iinc (v := v3 + (1)) dX7_counts_112 rfl rfl (by decide) rfl ?_
                  dsimp only [lset, lset2, clr]
                  refine pw_goto (tgt := 4) dX7_counts_115 (by decide) ?_
                  exact pw_lo (lle_s rfl (lle_s rfl (lle_s rfl (lle_s rfl (lle_n lle_0))))) (ih _ _ _ _ _ hf)
      · refine pw_aload_n dX7_counts_22 rfl ?_
        refine q_gR hf rfl (by decide) w9_X7_counts_X7 (by decide +kernel) dX7_counts_23 (fun x38 hf => ?_)
        refine pw_iload_n dX7_counts_26 rfl ?_
        refine pw_aload_n dX7_counts_27 rfl ?_
        refine q_gR hf rfl (by decide) w9_X7_counts_X7 (by decide +kernel) dX7_counts_28 (fun x39 hf => ?_)
        refine pw_iload_n dX7_counts_31 rfl ?_
        refine q_iald hf dX7_counts_32 (fun x40 hf => ?_)
        refine q_iast hf dX7_counts_33 (fun h41 hf => ?_)
        refine pw_iload_n dX7_counts_34 rfl ?_
        refine q_if_eq (tgt := 57) hf dX7_counts_35 (by decide) (fun hf _ => ?_) (fun hf _ => ?_)
        · refine pw_iconst (v := (0)) dX7_counts_57 (by decide) ?_
          refine pw_istore_n dX7_counts_58 (by decide) rfl ?_
          dsimp only [lset, lset2, clr]
          refine pw_aload_n dX7_counts_59 rfl ?_
          refine q_gR hf rfl (by decide) w9_X7_counts_X7 (by decide +kernel) dX7_counts_60 (fun x42 hf => ?_)
          refine pw_iload_n dX7_counts_63 rfl ?_
          refine q_iald hf dX7_counts_64 (fun x43 hf => ?_)
          refine pw_istore dX7_counts_65 (by decide) rfl ?_
          dsimp only [lset, lset2, clr]
          refine pw_iload dX7_counts_67 rfl ?_
          refine q_if_le (tgt := 112) hf dX7_counts_69 (by decide) (fun hf _ => ?_) (fun hf _ => ?_)
          · refine pw_iinc (v := v3 + (1)) dX7_counts_112 rfl rfl (by decide) rfl ?_
            dsimp only [lset, lset2, clr]
            refine pw_goto (tgt := 4) dX7_counts_115 (by decide) ?_
            exact pw_lo (lle_s rfl (lle_s rfl (lle_s rfl (lle_s rfl (lle_n lle_0))))) (ih _ _ _ _ _ hf)
          · refine pw_iload_n dX7_counts_72 rfl ?_
            refine pw_iload dX7_counts_73 rfl ?_
            refine pw_iadd dX7_counts_75 ?_
            refine pw_aload_n dX7_counts_76 rfl ?_
            refine pw_iconst (v := (0)) dX7_counts_77 (by decide) ?_
            refine q_iald hf dX7_counts_78 (fun x44 hf => ?_)
            refine q_icmp_ge (tgt := 112) hf dX7_counts_79 (by decide) (fun hf _ => ?_) (fun hf _ => ?_)
            · refine pw_iinc (v := v3 + (1)) dX7_counts_112 rfl rfl (by decide) rfl ?_
              dsimp only [lset, lset2, clr]
              refine pw_goto (tgt := 4) dX7_counts_115 (by decide) ?_
              exact pw_lo (lle_s rfl (lle_s rfl (lle_s rfl (lle_s rfl (lle_n lle_0))))) (ih _ _ _ _ _ hf)
            · refine pw_aload_n dX7_counts_82 rfl ?_
              refine q_gR hf rfl (by decide) w9_X7_counts_X7 (by decide +kernel) dX7_counts_83 (fun x45 hf => ?_)
              refine pw_iload_n dX7_counts_86 rfl ?_
              refine pw_iload dX7_counts_87 rfl ?_
              refine pw_iadd dX7_counts_89 ?_
              refine q_iald hf dX7_counts_90 (fun x46 hf => ?_)
              refine pw_iload dX7_counts_91 rfl ?_
              refine q_icmp_ne (tgt := 112) hf dX7_counts_93 (by decide) (fun hf _ => ?_) (fun hf _ => ?_)
              · refine pw_iinc (v := v3 + (1)) dX7_counts_112 rfl rfl (by decide) rfl ?_
                dsimp only [lset, lset2, clr]
                refine pw_goto (tgt := 4) dX7_counts_115 (by decide) ?_
                exact pw_lo (lle_s rfl (lle_s rfl (lle_s rfl (lle_s rfl (lle_n lle_0))))) (ih _ _ _ _ _ hf)
              · refine pw_aload_n dX7_counts_96 rfl ?_
                refine q_gR hf rfl (by decide) w9_X7_counts_X7 (by decide +kernel) dX7_counts_97 (fun x47 hf => ?_)
                refine pw_bipush (v := (20)) dX7_counts_100 (by decide) ?_
                refine pw_iload dX7_counts_102 rfl ?_
                refine pw_imul dX7_counts_104 ?_
                refine pw_iload_n dX7_counts_105 rfl ?_
                refine pw_iadd dX7_counts_106 ?_
                refine pw_dup2 dX7_counts_107 ⟨rfl, rfl⟩ ?_
                refine q_iald hf dX7_counts_108 (fun x48 hf => ?_)
                refine pw_iconst (v := (1)) dX7_counts_109 (by decide) ?_
                refine pw_iadd dX7_counts_110 ?_
                refine q_iast hf dX7_counts_111 (fun h49 hf => ?_)
                refine pw_iinc (v := v3 + (1)) dX7_counts_112 rfl rfl (by decide) rfl ?_
                dsimp only [lset, lset2, clr]
                refine pw_goto (tgt := 4) dX7_counts_115 (by decide) ?_
                exact pw_lo (lle_s rfl (lle_s rfl (lle_s rfl (lle_s rfl (lle_n lle_0))))) (ih _ _ _ _ _ hf)
        · refine pw_aload_n dX7_counts_38 rfl ?_
          refine q_gR hf rfl (by decide) w9_X7_counts_X7 (by decide +kernel) dX7_counts_39 (fun x50 hf => ?_)
          refine pw_iload_n dX7_counts_42 rfl ?_
          refine q_iald hf dX7_counts_43 (fun x51 hf => ?_)
          refine pw_aload_n dX7_counts_44 rfl ?_
          refine q_gR hf rfl (by decide) w9_X7_counts_X7 (by decide +kernel) dX7_counts_45 (fun x52 hf => ?_)
          refine pw_iload_n dX7_counts_48 rfl ?_
          refine q_iald hf dX7_counts_49 (fun x53 hf => ?_)
          refine q_icmp_ne (tgt := 57) hf dX7_counts_50 (by decide) (fun hf _ => ?_) (fun hf _ => ?_)
          · refine pw_iconst (v := (0)) dX7_counts_57 (by decide) ?_
            refine pw_istore_n dX7_counts_58 (by decide) rfl ?_
            dsimp only [lset, lset2, clr]
            refine pw_aload_n dX7_counts_59 rfl ?_
            refine q_gR hf rfl (by decide) w9_X7_counts_X7 (by decide +kernel) dX7_counts_60 (fun x54 hf => ?_)
            refine pw_iload_n dX7_counts_63 rfl ?_
            refine q_iald hf dX7_counts_64 (fun x55 hf => ?_)
            refine pw_istore dX7_counts_65 (by decide) rfl ?_
            dsimp only [lset, lset2, clr]
            refine pw_iload dX7_counts_67 rfl ?_
            refine q_if_le (tgt := 112) hf dX7_counts_69 (by decide) (fun hf _ => ?_) (fun hf _ => ?_)
            · refine pw_iinc (v := v3 + (1)) dX7_counts_112 rfl rfl (by decide) rfl ?_
              dsimp only [lset, lset2, clr]
              refine pw_goto (tgt := 4) dX7_counts_115 (by decide) ?_
              exact pw_lo (lle_s rfl (lle_s rfl (lle_s rfl (lle_s rfl (lle_n lle_0))))) (ih _ _ _ _ _ hf)
            · refine pw_iload_n dX7_counts_72 rfl ?_
              refine pw_iload dX7_counts_73 rfl ?_
              refine pw_iadd dX7_counts_75 ?_
              refine pw_aload_n dX7_counts_76 rfl ?_
              refine pw_iconst (v := (0)) dX7_counts_77 (by decide) ?_
              refine q_iald hf dX7_counts_78 (fun x56 hf => ?_)
              refine q_icmp_ge (tgt := 112) hf dX7_counts_79 (by decide) (fun hf _ => ?_) (fun hf _ => ?_)
              · refine pw_iinc (v := v3 + (1)) dX7_counts_112 rfl rfl (by decide) rfl ?_
                dsimp only [lset, lset2, clr]
                refine pw_goto (tgt := 4) dX7_counts_115 (by decide) ?_
                exact pw_lo (lle_s rfl (lle_s rfl (lle_s rfl (lle_s rfl (lle_n lle_0))))) (ih _ _ _ _ _ hf)
              · refine pw_aload_n dX7_counts_82 rfl ?_
                refine q_gR hf rfl (by decide) w9_X7_counts_X7 (by decide +kernel) dX7_counts_83 (fun x57 hf => ?_)
                refine pw_iload_n dX7_counts_86 rfl ?_
                refine pw_iload dX7_counts_87 rfl ?_
                refine pw_iadd dX7_counts_89 ?_
                refine q_iald hf dX7_counts_90 (fun x58 hf => ?_)
                refine pw_iload dX7_counts_91 rfl ?_
                refine q_icmp_ne (tgt := 112) hf dX7_counts_93 (by decide) (fun hf _ => ?_) (fun hf _ => ?_)
                · refine pw_iinc (v := v3 + (1)) dX7_counts_112 rfl rfl (by decide) rfl ?_
                  dsimp only [lset, lset2, clr]
                  refine pw_goto (tgt := 4) dX7_counts_115 (by decide) ?_
                  exact pw_lo (lle_s rfl (lle_s rfl (lle_s rfl (lle_s rfl (lle_n lle_0))))) (ih _ _ _ _ _ hf)
                · refine pw_aload_n dX7_counts_96 rfl ?_
                  refine q_gR hf rfl (by decide) w9_X7_counts_X7 (by decide +kernel) dX7_counts_97 (fun x59 hf => ?_)
                  refine pw_bipush (v := (20)) dX7_counts_100 (by decide) ?_
                  refine pw_iload dX7_counts_102 rfl ?_
                  refine pw_imul dX7_counts_104 ?_
                  refine pw_iload_n dX7_counts_105 rfl ?_
                  refine pw_iadd dX7_counts_106 ?_
                  refine pw_dup2 dX7_counts_107 ⟨rfl, rfl⟩ ?_
                  refine q_iald hf dX7_counts_108 (fun x60 hf => ?_)
                  refine pw_iconst (v := (1)) dX7_counts_109 (by decide) ?_
                  refine pw_iadd dX7_counts_110 ?_
                  refine q_iast hf dX7_counts_111 (fun h61 hf => ?_)
                  refine pw_iinc (v := v3 + (1)) dX7_counts_112 rfl rfl (by decide) rfl ?_
                  dsimp only [lset, lset2, clr]
                  refine pw_goto (tgt := 4) dX7_counts_115 (by decide) ?_
                  exact pw_lo (lle_s rfl (lle_s rfl (lle_s rfl (lle_s rfl (lle_n lle_0))))) (ih _ _ _ _ _ hf)
          · refine pw_iconst (v := (1)) dX7_counts_53 (by decide) ?_
            refine pw_goto (tgt := 58) dX7_counts_54 (by decide) ?_
            refine pw_istore_n dX7_counts_58 (by decide) rfl ?_
            dsimp only [lset, lset2, clr]
            refine pw_aload_n dX7_counts_59 rfl ?_
            refine q_gR hf rfl (by decide) w9_X7_counts_X7 (by decide +kernel) dX7_counts_60 (fun x62 hf => ?_)
            refine pw_iload_n dX7_counts_63 rfl ?_
            refine q_iald hf dX7_counts_64 (fun x63 hf => ?_)
            refine pw_istore dX7_counts_65 (by decide) rfl ?_
            dsimp only [lset, lset2, clr]
            refine pw_iload dX7_counts_67 rfl ?_
            refine q_if_le (tgt := 112) hf dX7_counts_69 (by decide) (fun hf _ => ?_) (fun hf _ => ?_)
            · refine pw_iinc (v := v3 + (1)) dX7_counts_112 rfl rfl (by decide) rfl ?_
              dsimp only [lset, lset2, clr]
              refine pw_goto (tgt := 4) dX7_counts_115 (by decide) ?_
              exact pw_lo (lle_s rfl (lle_s rfl (lle_s rfl (lle_s rfl (lle_n lle_0))))) (ih _ _ _ _ _ hf)
            · refine pw_iload_n dX7_counts_72 rfl ?_
              refine pw_iload dX7_counts_73 rfl ?_
              refine pw_iadd dX7_counts_75 ?_
              refine pw_aload_n dX7_counts_76 rfl ?_
              refine pw_iconst (v := (0)) dX7_counts_77 (by decide) ?_
              refine q_iald hf dX7_counts_78 (fun x64 hf => ?_)
              refine q_icmp_ge (tgt := 112) hf dX7_counts_79 (by decide) (fun hf _ => ?_) (fun hf _ => ?_)
              · refine pw_iinc (v := v3 + (1)) dX7_counts_112 rfl rfl (by decide) rfl ?_
                dsimp only [lset, lset2, clr]
                refine pw_goto (tgt := 4) dX7_counts_115 (by decide) ?_
                exact pw_lo (lle_s rfl (lle_s rfl (lle_s rfl (lle_s rfl (lle_n lle_0))))) (ih _ _ _ _ _ hf)
              · refine pw_aload_n dX7_counts_82 rfl ?_
                refine q_gR hf rfl (by decide) w9_X7_counts_X7 (by decide +kernel) dX7_counts_83 (fun x65 hf => ?_)
                refine pw_iload_n dX7_counts_86 rfl ?_
                refine pw_iload dX7_counts_87 rfl ?_
                refine pw_iadd dX7_counts_89 ?_
                refine q_iald hf dX7_counts_90 (fun x66 hf => ?_)
                refine pw_iload dX7_counts_91 rfl ?_
                refine q_icmp_ne (tgt := 112) hf dX7_counts_93 (by decide) (fun hf _ => ?_) (fun hf _ => ?_)
                · refine pw_iinc (v := v3 + (1)) dX7_counts_112 rfl rfl (by decide) rfl ?_
                  dsimp only [lset, lset2, clr]
                  refine pw_goto (tgt := 4) dX7_counts_115 (by decide) ?_
                  exact pw_lo (lle_s rfl (lle_s rfl (lle_s rfl (lle_s rfl (lle_n lle_0))))) (ih _ _ _ _ _ hf)
                · refine pw_aload_n dX7_counts_96 rfl ?_
                  refine q_gR hf rfl (by decide) w9_X7_counts_X7 (by decide +kernel) dX7_counts_97 (fun x67 hf => ?_)
                  refine pw_bipush (v := (20)) dX7_counts_100 (by decide) ?_
                  refine pw_iload dX7_counts_102 rfl ?_
                  refine pw_imul dX7_counts_104 ?_
                  refine pw_iload_n dX7_counts_105 rfl ?_
                  refine pw_iadd dX7_counts_106 ?_
                  refine pw_dup2 dX7_counts_107 ⟨rfl, rfl⟩ ?_
                  refine q_iald hf dX7_counts_108 (fun x68 hf => ?_)
                  refine pw_iconst (v := (1)) dX7_counts_109 (by decide) ?_
                  refine pw_iadd dX7_counts_110 ?_
                  refine q_iast hf dX7_counts_111 (fun h69 hf => ?_)
                  refine pw_iinc (v := v3 + (1)) dX7_counts_112 rfl rfl (by decide) rfl ?_
                  dsimp only [lset, lset2, clr]
                  refine pw_goto (tgt := 4) dX7_counts_115 (by decide) ?_
                  exact pw_lo (lle_s rfl (lle_s rfl (lle_s rfl (lle_s rfl (lle_n lle_0))))) (ih _ _ _ _ _ hf)
def f_X7_counts (h : Hp) (a0 : Nat) (a1 : Nat) : Option Hp := f_X7_counts_4 4096 a0 a1 (1 : Int32) (0 : Int32) h
set_option maxHeartbeats 4000000 in
set_option maxRecDepth 100000 in
theorem t_X7_counts {g : GT} {l : Launch} {h : Hp} {a0 : Nat} {a1 : Nat} {r : Hp} (hf : f_X7_counts h a0 a1 = some r) : PM g l 1 0 0 yX7_counts wsX7_counts [.ref a0, .ref a1] h (fun r9 h9 => r9 = none ∧ h9 = r) := by
  refine pm_of (M := m_X7_counts) (by decide) rfl rfl rfl (Nat.le_of_ble_eq_true rfl) (lo := [some (.ref a0), some (.ref a1), none, none, none]) rfl ?_
  rw [f_X7_counts] at hf
  refine pw_iconst (v := (1)) dX7_counts_0 (by decide) ?_
  refine pw_istore_n dX7_counts_1 (by decide) rfl ?_
  dsimp only [lset, lset2, clr]
  refine pw_iconst (v := (0)) dX7_counts_2 (by decide) ?_
  refine pw_istore_n dX7_counts_3 (by decide) rfl ?_
  dsimp only [lset, lset2, clr]
  exact pw_lo (lle_s rfl (lle_s rfl (lle_s rfl (lle_s rfl (lle_n lle_0))))) (w_X7_counts_4 4096 _ _ _ _ _ hf)
/-! X7_fills -/
abbrev m_X7_fills : MD := (cX7_fills, RX7, "fills", wsX7_fills, 6, none)
theorem w9_X7_fills_X7 : ∀ w ∈ u_ws RX7 TX7 31, w ∈ wsX7_fills := by decide +kernel
theorem hd9_X7_fills : yX7_fills.cls = RX7 ∧ yX7_fills.cls ≠ "java/lang/invoke/MethodHandle" ∧ yX7_fills.cls ≠ "java/lang/invoke/VarHandle" ∧ (parseMethodDescriptor yX7_fills.desc).map (fun d => d.parameters.length) = some 3 := by decide +kernel
def f_X7_fills_63 (rec : Hp → Nat → Nat → Int32 → Int32 → Option Hp) : Nat → Nat → Nat → Int32 → Int32 → Int32 → Hp → Option Hp
  | 0, _, _, _, _, _, _ => none
  | n + 1, v0, v1, v3, v4, v5, h => if (15 : Int32) < v5 then (some h) else ((aI h 0 v1 (0 : Int32)).bind fun x1 => if x1 < (v4 + v5) then (some h) else ((f_X7_has h v3 (v5 - (1 : Int32))).bind fun x2 => if x2 = 0 then (f_X7_fills_63 rec n v0 v1 v3 v4 (v5 + (1)) h) else ((aI h 0 v1 ((3 : Int32) + v5)).bind fun x3 => if x3 ≤ 0 then ((aI h 0 v1 (1 : Int32)).bind fun x4 => (f_X7_has h x4 ((v4 + v5) - (1 : Int32))).bind fun x5 => if x5 = 0 then ((gR h v0 7 20).bind fun x6 => (aI h 0 x6 ((v4 + v5) - (1 : Int32))).bind fun x7 => if x7 ≤ 0 then ((gR h v0 7 20).bind fun x8 => (sI h 0 x8 (v4 - (1 : Int32)) v5).bind fun h9 => (gR h9 v0 7 20).bind fun x10 => (sI h9 0 x10 ((v4 + v5) - (1 : Int32)) v5).bind fun h11 => if oK h11 v0 7 = true then (rec h11 v0 v1 (v4 + (1 : Int32)) (v3 &&& (((1 : Int32) <<< ((v5 - (1 : Int32)) &&& 31)) ^^^ (-1 : Int32)))).bind fun h12 => (gR h12 v0 7 20).bind fun x13 => (sI h12 0 x13 (v4 - (1 : Int32)) (0 : Int32)).bind fun h14 => (gR h14 v0 7 20).bind fun x15 => (sI h14 0 x15 ((v4 + v5) - (1 : Int32)) (0 : Int32)).bind fun h16 => f_X7_fills_63 rec n v0 v1 v3 v4 (v5 + (1)) h16 else none) else (f_X7_fills_63 rec n v0 v1 v3 v4 (v5 + (1)) h)) else (f_X7_fills_63 rec n v0 v1 v3 v4 (v5 + (1)) h)) else ((aI h 0 v1 ((3 : Int32) + v5)).bind fun x17 => if x17 = v4 then ((aI h 0 v1 (1 : Int32)).bind fun x18 => (f_X7_has h x18 ((v4 + v5) - (1 : Int32))).bind fun x19 => if x19 = 0 then ((gR h v0 7 20).bind fun x20 => (aI h 0 x20 ((v4 + v5) - (1 : Int32))).bind fun x21 => if x21 ≤ 0 then ((gR h v0 7 20).bind fun x22 => (sI h 0 x22 (v4 - (1 : Int32)) v5).bind fun h23 => (gR h23 v0 7 20).bind fun x24 => (sI h23 0 x24 ((v4 + v5) - (1 : Int32)) v5).bind fun h25 => if oK h25 v0 7 = true then (rec h25 v0 v1 (v4 + (1 : Int32)) (v3 &&& (((1 : Int32) <<< ((v5 - (1 : Int32)) &&& 31)) ^^^ (-1 : Int32)))).bind fun h26 => (gR h26 v0 7 20).bind fun x27 => (sI h26 0 x27 (v4 - (1 : Int32)) (0 : Int32)).bind fun h28 => (gR h28 v0 7 20).bind fun x29 => (sI h28 0 x29 ((v4 + v5) - (1 : Int32)) (0 : Int32)).bind fun h30 => f_X7_fills_63 rec n v0 v1 v3 v4 (v5 + (1)) h30 else none) else (f_X7_fills_63 rec n v0 v1 v3 v4 (v5 + (1)) h)) else (f_X7_fills_63 rec n v0 v1 v3 v4 (v5 + (1)) h)) else (f_X7_fills_63 rec n v0 v1 v3 v4 (v5 + (1)) h)))))
set_option maxHeartbeats 4000000 in
set_option maxRecDepth 100000 in
theorem w_X7_fills_63 {g : GT} {l : Launch} {n9 : Nat} {rec} {r : Hp} (hrec : ∀ h a0 a1 a2 a3 r, rec h a0 a1 a2 a3 = some r → PM g l (2 * n9) 0 0 yX7_fills wsX7_fills [.ref a0, .ref a1, .int a2, .int a3] h (fun r9 h9 => r9 = none ∧ h9 = r)) : ∀ (n : Nat) (v0 : Nat) (v1 : Nat) (v3 : Int32) (v4 : Int32) (v5 : Int32) (h : Hp), f_X7_fills_63 rec n v0 v1 v3 v4 v5 h = some r → PW g l m_X7_fills (2 * n9 + 2) 0 0 63 [some (.ref v0), some (.ref v1), none, some (.int v3), some (.int v4), some (.int v5)] [] h (fun r9 h9 => r9 = none ∧ h9 = r) := by
  intro n
  induction n with
  | zero => intro v0 v1 v3 v4 v5 h hf; cases hf
  | succ n ih =>
    intro v0 v1 v3 v4 v5 h hf
    rw [f_X7_fills_63] at hf
    refine pw_iload dX7_fills_63 rfl ?_
    refine pw_bipush (v := (15)) dX7_fills_65 (by decide) ?_
    refine q_icmp_gt (tgt := 219) hf dX7_fills_67 (by decide) (fun hf _ => ?_) (fun hf _ => ?_)
    · exact pw_vret rfl dX7_fills_219 ⟨rfl, Option.some.inj hf⟩
    · refine pw_iload dX7_fills_70 rfl ?_
      refine pw_iload dX7_fills_72 rfl ?_
      refine pw_iadd dX7_fills_74 ?_
      refine pw_aload_n dX7_fills_75 rfl ?_
      refine pw_iconst (v := (0)) dX7_fills_76 (by decide) ?_
      refine q_iald hf dX7_fills_77 (fun x1 hf => ?_)
      refine q_icmp_gt (tgt := 219) hf dX7_fills_78 (by decide) (fun hf _ => ?_) (fun hf _ => ?_)
      · exact pw_vret rfl dX7_fills_219 ⟨rfl, Option.some.inj hf⟩
      · refine pw_iload_n dX7_fills_81 rfl ?_
        refine pw_iload dX7_fills_82 rfl ?_
        refine pw_iconst (v := (1)) dX7_fills_84 (by decide) ?_
        refine pw_isub dX7_fills_85 ?_
        refine q_callS_i (kc2 := 0) (ks2 := 0) (as := [.int v3, .int (v5 - (1 : Int32))]) (rest := []) hf (fun x9 e9 => t_X7_has e9) gX7_fills_X7_has rfl hd9_X7_has rfl ⟨(by omega), by decide⟩ ⟨rfl, rfl⟩ (Nat.le_of_ble_eq_true rfl) dX7_fills_86 rfl (fun x2 hf => ?_)
        refine q_if_eq (tgt := 213) hf dX7_fills_89 (by decide) (fun hf _ => ?_) (fun hf _ => ?_)
        · refine pw_iinc (v := v5 + (1)) dX7_fills_213 rfl rfl (by decide) rfl ?_
          dsimp only [lset, lset2, clr]
          refine pw_goto (tgt := 63) dX7_fills_216 (by decide) ?_
          exact pw_lo (lle_s rfl (lle_s rfl (lle_n (lle_s rfl (lle_s rfl (lle_s rfl lle_0)))))) (ih _ _ _ _ _ _ hf)
        · refine pw_aload_n dX7_fills_92 rfl ?_
          refine pw_iconst (v := (3)) dX7_fills_93 (by decide) ?_
          refine pw_iload dX7_fills_94 rfl ?_
          refine pw_iadd dX7_fills_96 ?_
          refine q_iald hf dX7_fills_97 (fun x3 hf => ?_)
          refine q_if_le (tgt := 112) hf dX7_fills_98 (by decide) (fun hf _ => ?_) (fun hf _ => ?_)
          · refine pw_aload_n dX7_fills_112 rfl ?_
            refine pw_iconst (v := (1)) dX7_fills_113 (by decide) ?_
            refine q_iald hf dX7_fills_114 (fun x4 hf => ?_)
            refine pw_iload dX7_fills_115 rfl ?_
            refine pw_iload dX7_fills_117 rfl ?_
            refine pw_iadd dX7_fills_119 ?_
            refine pw_iconst (v := (1)) dX7_fills_120 (by decide) ?_
            refine pw_isub dX7_fills_121 ?_
            refine q_callS_i (kc2 := 0) (ks2 := 0) (as := [.int x4, .int ((v4 + v5) - (1 : Int32))]) (rest := []) hf (fun x9 e9 => t_X7_has e9) gX7_fills_X7_has rfl hd9_X7_has rfl ⟨(by omega), by decide⟩ ⟨rfl, rfl⟩ (Nat.le_of_ble_eq_true rfl) dX7_fills_122 rfl (fun x5 hf => ?_)
            refine q_if_ne (tgt := 213) hf dX7_fills_125 (by decide) (fun hf _ => ?_) (fun hf _ => ?_)
            · refine pw_iinc (v := v5 + (1)) dX7_fills_213 rfl rfl (by decide) rfl ?_
              dsimp only [lset, lset2, clr]
              refine pw_goto (tgt := 63) dX7_fills_216 (by decide) ?_
              exact pw_lo (lle_s rfl (lle_s rfl (lle_n (lle_s rfl (lle_s rfl (lle_s rfl lle_0)))))) (ih _ _ _ _ _ _ hf)
            · refine pw_aload_n dX7_fills_128 rfl ?_
              refine q_gR hf rfl (by decide) w9_X7_fills_X7 (by decide +kernel) dX7_fills_129 (fun x6 hf => ?_)
              refine pw_iload dX7_fills_132 rfl ?_
              refine pw_iload dX7_fills_134 rfl ?_
              refine pw_iadd dX7_fills_136 ?_
              refine pw_iconst (v := (1)) dX7_fills_137 (by decide) ?_
              refine pw_isub dX7_fills_138 ?_
              refine q_iald hf dX7_fills_139 (fun x7 hf => ?_)
              refine q_if_le (tgt := 146) hf dX7_fills_140 (by decide) (fun hf _ => ?_) (fun hf _ => ?_)
              · refine pw_aload_n dX7_fills_146 rfl ?_
                refine q_gR hf rfl (by decide) w9_X7_fills_X7 (by decide +kernel) dX7_fills_147 (fun x8 hf => ?_)
                refine pw_iload dX7_fills_150 rfl ?_
                refine pw_iconst (v := (1)) dX7_fills_152 (by decide) ?_
                refine pw_isub dX7_fills_153 ?_
                refine pw_iload dX7_fills_154 rfl ?_
                refine q_iast hf dX7_fills_156 (fun h9 hf => ?_)
                refine pw_aload_n dX7_fills_157 rfl ?_
                refine q_gR hf rfl (by decide) w9_X7_fills_X7 (by decide +kernel) dX7_fills_158 (fun x10 hf => ?_)
                refine pw_iload dX7_fills_161 rfl ?_
                refine pw_iload dX7_fills_163 rfl ?_
                refine pw_iadd dX7_fills_165 ?_
                refine pw_iconst (v := (1)) dX7_fills_166 (by decide) ?_
                refine pw_isub dX7_fills_167 ?_
                refine pw_iload dX7_fills_168 rfl ?_
                refine q_iast hf dX7_fills_170 (fun h11 hf => ?_)
                refine pw_aload_n dX7_fills_171 rfl ?_
                refine pw_aload_n dX7_fills_172 rfl ?_
                refine pw_iload dX7_fills_173 rfl ?_
                refine pw_iconst (v := (1)) dX7_fills_175 (by decide) ?_
                refine pw_iadd dX7_fills_176 ?_
                refine pw_iload_n dX7_fills_177 rfl ?_
                refine pw_iconst (v := (1)) dX7_fills_178 (by decide) ?_
                refine pw_iload dX7_fills_179 rfl ?_
                refine pw_iconst (v := (1)) dX7_fills_181 (by decide) ?_
                refine pw_isub dX7_fills_182 ?_
                refine pw_ishl dX7_fills_183 ?_
                refine pw_iconst (v := (-1)) dX7_fills_184 (by decide) ?_
                refine pw_ixor dX7_fills_185 ?_
                refine pw_iand dX7_fills_186 ?_
                refine q_callV_v (kc2 := 0) (ks2 := 0) (as := [.ref v1, .int (v4 + (1 : Int32)), .int (v3 &&& (((1 : Int32) <<< ((v5 - (1 : Int32)) &&& 31)) ^^^ (-1 : Int32)))]) (rest := []) hf (fun x9 e9 => hrec _ _ _ _ _ x9 e9) gX7_fills_X7_fills rfl hd9_X7_fills rfl rfl ⟨(by omega), by decide⟩ ⟨rfl, rfl⟩ (Nat.le_of_ble_eq_true rfl) dX7_fills_187 rfl (fun h12 hf => ?_)
                refine pw_aload_n dX7_fills_190 rfl ?_
                refine q_gR hf rfl (by decide) w9_X7_fills_X7 (by decide +kernel) dX7_fills_191 (fun x13 hf => ?_)
                refine pw_iload dX7_fills_194 rfl ?_
                refine pw_iconst (v := (1)) dX7_fills_196 (by decide) ?_
                refine pw_isub dX7_fills_197 ?_
                refine pw_iconst (v := (0)) dX7_fills_198 (by decide) ?_
                refine q_iast hf dX7_fills_199 (fun h14 hf => ?_)
                refine pw_aload_n dX7_fills_200 rfl ?_
                refine q_gR hf rfl (by decide) w9_X7_fills_X7 (by decide +kernel) dX7_fills_201 (fun x15 hf => ?_)
                refine pw_iload dX7_fills_204 rfl ?_
                refine pw_iload dX7_fills_206 rfl ?_
                refine pw_iadd dX7_fills_208 ?_
                refine pw_iconst (v := (1)) dX7_fills_209 (by decide) ?_
                refine pw_isub dX7_fills_210 ?_
                refine pw_iconst (v := (0)) dX7_fills_211 (by decide) ?_
                refine q_iast hf dX7_fills_212 (fun h16 hf => ?_)
                refine pw_iinc (v := v5 + (1)) dX7_fills_213 rfl rfl (by decide) rfl ?_
                dsimp only [lset, lset2, clr]
                refine pw_goto (tgt := 63) dX7_fills_216 (by decide) ?_
                exact pw_lo (lle_s rfl (lle_s rfl (lle_n (lle_s rfl (lle_s rfl (lle_s rfl lle_0)))))) (ih _ _ _ _ _ _ hf)
              · refine pw_goto (tgt := 213) dX7_fills_143 (by decide) ?_
                refine pw_iinc (v := v5 + (1)) dX7_fills_213 rfl rfl (by decide) rfl ?_
                dsimp only [lset, lset2, clr]
                refine pw_goto (tgt := 63) dX7_fills_216 (by decide) ?_
                exact pw_lo (lle_s rfl (lle_s rfl (lle_n (lle_s rfl (lle_s rfl (lle_s rfl lle_0)))))) (ih _ _ _ _ _ _ hf)
          · refine pw_aload_n dX7_fills_101 rfl ?_
            refine pw_iconst (v := (3)) dX7_fills_102 (by decide) ?_
            refine pw_iload dX7_fills_103 rfl ?_
            refine pw_iadd dX7_fills_105 ?_
            refine q_iald hf dX7_fills_106 (fun x17 hf => ?_)
            refine pw_iload dX7_fills_107 rfl ?_
            refine q_icmp_ne (tgt := 213) hf dX7_fills_109 (by decide) (fun hf _ => ?_) (fun hf _ => ?_)
            · refine pw_iinc (v := v5 + (1)) dX7_fills_213 rfl rfl (by decide) rfl ?_
              dsimp only [lset, lset2, clr]
              refine pw_goto (tgt := 63) dX7_fills_216 (by decide) ?_
              exact pw_lo (lle_s rfl (lle_s rfl (lle_n (lle_s rfl (lle_s rfl (lle_s rfl lle_0)))))) (ih _ _ _ _ _ _ hf)
            · refine pw_aload_n dX7_fills_112 rfl ?_
              refine pw_iconst (v := (1)) dX7_fills_113 (by decide) ?_
              refine q_iald hf dX7_fills_114 (fun x18 hf => ?_)
              refine pw_iload dX7_fills_115 rfl ?_
              refine pw_iload dX7_fills_117 rfl ?_
              refine pw_iadd dX7_fills_119 ?_
              refine pw_iconst (v := (1)) dX7_fills_120 (by decide) ?_
              refine pw_isub dX7_fills_121 ?_
              refine q_callS_i (kc2 := 0) (ks2 := 0) (as := [.int x18, .int ((v4 + v5) - (1 : Int32))]) (rest := []) hf (fun x9 e9 => t_X7_has e9) gX7_fills_X7_has rfl hd9_X7_has rfl ⟨(by omega), by decide⟩ ⟨rfl, rfl⟩ (Nat.le_of_ble_eq_true rfl) dX7_fills_122 rfl (fun x19 hf => ?_)
              refine q_if_ne (tgt := 213) hf dX7_fills_125 (by decide) (fun hf _ => ?_) (fun hf _ => ?_)
              · refine pw_iinc (v := v5 + (1)) dX7_fills_213 rfl rfl (by decide) rfl ?_
                dsimp only [lset, lset2, clr]
                refine pw_goto (tgt := 63) dX7_fills_216 (by decide) ?_
                exact pw_lo (lle_s rfl (lle_s rfl (lle_n (lle_s rfl (lle_s rfl (lle_s rfl lle_0)))))) (ih _ _ _ _ _ _ hf)
              · refine pw_aload_n dX7_fills_128 rfl ?_
                refine q_gR hf rfl (by decide) w9_X7_fills_X7 (by decide +kernel) dX7_fills_129 (fun x20 hf => ?_)
                refine pw_iload dX7_fills_132 rfl ?_
                refine pw_iload dX7_fills_134 rfl ?_
                refine pw_iadd dX7_fills_136 ?_
                refine pw_iconst (v := (1)) dX7_fills_137 (by decide) ?_
                refine pw_isub dX7_fills_138 ?_
                refine q_iald hf dX7_fills_139 (fun x21 hf => ?_)
                refine q_if_le (tgt := 146) hf dX7_fills_140 (by decide) (fun hf _ => ?_) (fun hf _ => ?_)
                · refine pw_aload_n dX7_fills_146 rfl ?_
                  refine q_gR hf rfl (by decide) w9_X7_fills_X7 (by decide +kernel) dX7_fills_147 (fun x22 hf => ?_)
                  refine pw_iload dX7_fills_150 rfl ?_
                  refine pw_iconst (v := (1)) dX7_fills_152 (by decide) ?_
                  refine pw_isub dX7_fills_153 ?_
                  refine pw_iload dX7_fills_154 rfl ?_
                  refine q_iast hf dX7_fills_156 (fun h23 hf => ?_)
                  refine pw_aload_n dX7_fills_157 rfl ?_
                  refine q_gR hf rfl (by decide) w9_X7_fills_X7 (by decide +kernel) dX7_fills_158 (fun x24 hf => ?_)
                  refine pw_iload dX7_fills_161 rfl ?_
                  refine pw_iload dX7_fills_163 rfl ?_
                  refine pw_iadd dX7_fills_165 ?_
                  refine pw_iconst (v := (1)) dX7_fills_166 (by decide) ?_
                  refine pw_isub dX7_fills_167 ?_
                  refine pw_iload dX7_fills_168 rfl ?_
                  refine q_iast hf dX7_fills_170 (fun h25 hf => ?_)
                  refine pw_aload_n dX7_fills_171 rfl ?_
                  refine pw_aload_n dX7_fills_172 rfl ?_
                  refine pw_iload dX7_fills_173 rfl ?_
                  refine pw_iconst (v := (1)) dX7_fills_175 (by decide) ?_
                  refine pw_iadd dX7_fills_176 ?_
                  refine pw_iload_n dX7_fills_177 rfl ?_
                  refine pw_iconst (v := (1)) dX7_fills_178 (by decide) ?_
                  refine pw_iload dX7_fills_179 rfl ?_
                  refine pw_iconst (v := (1)) dX7_fills_181 (by decide) ?_
                  refine pw_isub dX7_fills_182 ?_
                  refine pw_ishl dX7_fills_183 ?_
                  refine pw_iconst (v := (-1)) dX7_fills_184 (by decide) ?_
                  refine pw_ixor dX7_fills_185 ?_
                  refine pw_iand dX7_fills_186 ?_
                  refine q_callV_v (kc2 := 0) (ks2 := 0) (as := [.ref v1, .int (v4 + (1 : Int32)), .int (v3 &&& (((1 : Int32) <<< ((v5 - (1 : Int32)) &&& 31)) ^^^ (-1 : Int32)))]) (rest := []) hf (fun x9 e9 => hrec _ _ _ _ _ x9 e9) gX7_fills_X7_fills rfl hd9_X7_fills rfl rfl ⟨(by omega), by decide⟩ ⟨rfl, rfl⟩ (Nat.le_of_ble_eq_true rfl) dX7_fills_187 rfl (fun h26 hf => ?_)
                  refine pw_aload_n dX7_fills_190 rfl ?_
                  refine q_gR hf rfl (by decide) w9_X7_fills_X7 (by decide +kernel) dX7_fills_191 (fun x27 hf => ?_)
                  refine pw_iload dX7_fills_194 rfl ?_
                  refine pw_iconst (v := (1)) dX7_fills_196 (by decide) ?_
                  refine pw_isub dX7_fills_197 ?_
                  refine pw_iconst (v := (0)) dX7_fills_198 (by decide) ?_
                  refine q_iast hf dX7_fills_199 (fun h28 hf => ?_)
                  refine pw_aload_n dX7_fills_200 rfl ?_
                  refine q_gR hf rfl (by decide) w9_X7_fills_X7 (by decide +kernel) dX7_fills_201 (fun x29 hf => ?_)
                  refine pw_iload dX7_fills_204 rfl ?_
                  refine pw_iload dX7_fills_206 rfl ?_
                  refine pw_iadd dX7_fills_208 ?_
                  refine pw_iconst (v := (1)) dX7_fills_209 (by decide) ?_
                  refine pw_isub dX7_fills_210 ?_
                  refine pw_iconst (v := (0)) dX7_fills_211 (by decide) ?_
                  refine q_iast hf dX7_fills_212 (fun h30 hf => ?_)
                  refine pw_iinc (v := v5 + (1)) dX7_fills_213 rfl rfl (by decide) rfl ?_
                  dsimp only [lset, lset2, clr]
                  refine pw_goto (tgt := 63) dX7_fills_216 (by decide) ?_
                  exact pw_lo (lle_s rfl (lle_s rfl (lle_n (lle_s rfl (lle_s rfl (lle_s rfl lle_0)))))) (ih _ _ _ _ _ _ hf)
                · refine pw_goto (tgt := 213) dX7_fills_143 (by decide) ?_
                  refine pw_iinc (v := v5 + (1)) dX7_fills_213 rfl rfl (by decide) rfl ?_
                  dsimp only [lset, lset2, clr]
                  refine pw_goto (tgt := 63) dX7_fills_216 (by decide) ?_
                  exact pw_lo (lle_s rfl (lle_s rfl (lle_n (lle_s rfl (lle_s rfl (lle_s rfl lle_0)))))) (ih _ _ _ _ _ _ hf)
def f_X7_fills_3 (rec : Hp → Nat → Nat → Int32 → Int32 → Option Hp) : Nat → Nat → Nat → Int32 → Int32 → Hp → Option Hp
  | 0, _, _, _, _, _ => none
  | n + 1, v0, v1, v3, v4, h => (aI h 0 v1 (0 : Int32)).bind fun x1 => if x1 < v4 then ((aI h 0 v1 (0 : Int32)).bind fun x2 => if v4 ≤ x2 then (f_X7_fills_63 rec 4096 v0 v1 v3 v4 (1 : Int32) h) else (if v3 = 0 then (if oK h v0 7 = true then (f_X7_counts h v0 v1).bind fun h3 => some h3 else none) else (some h))) else ((aI h 0 v1 (1 : Int32)).bind fun x4 => (f_X7_has h x4 (v4 - (1 : Int32))).bind fun x5 => if x5 = 0 then ((gR h v0 7 20).bind fun x6 => (aI h 0 x6 (v4 - (1 : Int32))).bind fun x7 => if x7 ≤ 0 then ((aI h 0 v1 (0 : Int32)).bind fun x8 => if v4 ≤ x8 then (f_X7_fills_63 rec 4096 v0 v1 v3 v4 (1 : Int32) h) else (if v3 = 0 then (if oK h v0 7 = true then (f_X7_counts h v0 v1).bind fun h9 => some h9 else none) else (some h))) else (f_X7_fills_3 rec n v0 v1 v3 (v4 + (1)) h)) else (f_X7_fills_3 rec n v0 v1 v3 (v4 + (1)) h))
set_option maxHeartbeats 4000000 in
set_option maxRecDepth 100000 in
theorem w_X7_fills_3 {g : GT} {l : Launch} {n9 : Nat} {rec} {r : Hp} (hrec : ∀ h a0 a1 a2 a3 r, rec h a0 a1 a2 a3 = some r → PM g l (2 * n9) 0 0 yX7_fills wsX7_fills [.ref a0, .ref a1, .int a2, .int a3] h (fun r9 h9 => r9 = none ∧ h9 = r)) : ∀ (n : Nat) (v0 : Nat) (v1 : Nat) (v3 : Int32) (v4 : Int32) (h : Hp), f_X7_fills_3 rec n v0 v1 v3 v4 h = some r → PW g l m_X7_fills (2 * n9 + 2) 0 0 3 [some (.ref v0), some (.ref v1), none, some (.int v3), some (.int v4), none] [] h (fun r9 h9 => r9 = none ∧ h9 = r) := by
  intro n
  induction n with
  | zero => intro v0 v1 v3 v4 h hf; cases hf
  | succ n ih =>
    intro v0 v1 v3 v4 h hf
    rw [f_X7_fills_3] at hf
    refine pw_iload dX7_fills_3 rfl ?_
    refine pw_aload_n dX7_fills_5 rfl ?_
    refine pw_iconst (v := (0)) dX7_fills_6 (by decide) ?_
    refine q_iald hf dX7_fills_7 (fun x1 hf => ?_)
    refine q_icmp_gt (tgt := 42) hf dX7_fills_8 (by decide) (fun hf _ => ?_) (fun hf _ => ?_)
    · refine pw_iload dX7_fills_42 rfl ?_
      refine pw_aload_n dX7_fills_44 rfl ?_
      refine pw_iconst (v := (0)) dX7_fills_45 (by decide) ?_
      refine q_iald hf dX7_fills_46 (fun x2 hf => ?_)
      refine q_icmp_le (tgt := 60) hf dX7_fills_47 (by decide) (fun hf _ => ?_) (fun hf _ => ?_)
      · refine pw_iconst (v := (1)) dX7_fills_60 (by decide) ?_
        refine pw_istore dX7_fills_61 (by decide) rfl ?_
        dsimp only [lset, lset2, clr]
        exact pw_lo (lle_s rfl (lle_s rfl (lle_n (lle_s rfl (lle_s rfl (lle_s rfl lle_0)))))) (w_X7_fills_63 hrec 4096 _ _ _ _ _ _ hf)
      · refine pw_iload_n dX7_fills_50 rfl ?_
        refine q_if_ne (tgt := 59) hf dX7_fills_51 (by decide) (fun hf _ => ?_) (fun hf _ => ?_)
        · exact pw_vret rfl dX7_fills_59 ⟨rfl, Option.some.inj hf⟩
        · refine pw_aload_n dX7_fills_54 rfl ?_
          refine pw_aload_n dX7_fills_55 rfl ?_
          refine q_callV_v (kc2 := 0) (ks2 := 0) (as := [.ref v1]) (rest := []) hf (fun x9 e9 => t_X7_counts e9) gX7_fills_X7_counts rfl hd9_X7_counts rfl rfl ⟨(by omega), by decide⟩ ⟨rfl, rfl⟩ (Nat.le_of_ble_eq_true rfl) dX7_fills_56 rfl (fun h3 hf => ?_)
          exact pw_vret rfl dX7_fills_59 ⟨rfl, Option.some.inj hf⟩
    · refine pw_aload_n dX7_fills_11 rfl ?_
      refine pw_iconst (v := (1)) dX7_fills_12 (by decide) ?_
      refine q_iald hf dX7_fills_13 (fun x4 hf => ?_)
      refine pw_iload dX7_fills_14 rfl ?_
      refine pw_iconst (v := (1)) dX7_fills_16 (by decide) ?_
      refine pw_isub dX7_fills_17 ?_
      refine q_callS_i (kc2 := 0) (ks2 := 0) (as := [.int x4, .int (v4 - (1 : Int32))]) (rest := []) hf (fun x9 e9 => t_X7_has e9) gX7_fills_X7_has rfl hd9_X7_has rfl ⟨(by omega), by decide⟩ ⟨rfl, rfl⟩ (Nat.le_of_ble_eq_true rfl) dX7_fills_18 rfl (fun x5 hf => ?_)
      refine q_if_ne (tgt := 36) hf dX7_fills_21 (by decide) (fun hf _ => ?_) (fun hf _ => ?_)
      · refine pw_iinc (v := v4 + (1)) dX7_fills_36 rfl rfl (by decide) rfl ?_
        dsimp only [lset, lset2, clr]
        refine pw_goto (tgt := 3) dX7_fills_39 (by decide) ?_
        exact pw_lo (lle_s rfl (lle_s rfl (lle_n (lle_s rfl (lle_s rfl (lle_n lle_0)))))) (ih _ _ _ _ _ hf)
      · refine pw_aload_n dX7_fills_24 rfl ?_
        refine q_gR hf rfl (by decide) w9_X7_fills_X7 (by decide +kernel) dX7_fills_25 (fun x6 hf => ?_)
        refine pw_iload dX7_fills_28 rfl ?_
        refine pw_iconst (v := (1)) dX7_fills_30 (by decide) ?_
        refine pw_isub dX7_fills_31 ?_
        refine q_iald hf dX7_fills_32 (fun x7 hf => ?_)
        refine q_if_le (tgt := 42) hf dX7_fills_33 (by decide) (fun hf _ => ?_) (fun hf _ => ?_)
        · refine pw_iload dX7_fills_42 rfl ?_
          refine pw_aload_n dX7_fills_44 rfl ?_
          refine pw_iconst (v := (0)) dX7_fills_45 (by decide) ?_
          refine q_iald hf dX7_fills_46 (fun x8 hf => ?_)
          refine q_icmp_le (tgt := 60) hf dX7_fills_47 (by decide) (fun hf _ => ?_) (fun hf _ => ?_)
          · refine pw_iconst (v := (1)) dX7_fills_60 (by decide) ?_
            refine pw_istore dX7_fills_61 (by decide) rfl ?_
            dsimp only [lset, lset2, clr]
            exact pw_lo (lle_s rfl (lle_s rfl (lle_n (lle_s rfl (lle_s rfl (lle_s rfl lle_0)))))) (w_X7_fills_63 hrec 4096 _ _ _ _ _ _ hf)
          · refine pw_iload_n dX7_fills_50 rfl ?_
            refine q_if_ne (tgt := 59) hf dX7_fills_51 (by decide) (fun hf _ => ?_) (fun hf _ => ?_)
            · exact pw_vret rfl dX7_fills_59 ⟨rfl, Option.some.inj hf⟩
            · refine pw_aload_n dX7_fills_54 rfl ?_
              refine pw_aload_n dX7_fills_55 rfl ?_
              refine q_callV_v (kc2 := 0) (ks2 := 0) (as := [.ref v1]) (rest := []) hf (fun x9 e9 => t_X7_counts e9) gX7_fills_X7_counts rfl hd9_X7_counts rfl rfl ⟨(by omega), by decide⟩ ⟨rfl, rfl⟩ (Nat.le_of_ble_eq_true rfl) dX7_fills_56 rfl (fun h9 hf => ?_)
              exact pw_vret rfl dX7_fills_59 ⟨rfl, Option.some.inj hf⟩
        · refine pw_iinc (v := v4 + (1)) dX7_fills_36 rfl rfl (by decide) rfl ?_
          dsimp only [lset, lset2, clr]
          refine pw_goto (tgt := 3) dX7_fills_39 (by decide) ?_
          exact pw_lo (lle_s rfl (lle_s rfl (lle_n (lle_s rfl (lle_s rfl (lle_n lle_0)))))) (ih _ _ _ _ _ hf)
def f_X7_fills : Nat → Hp → Nat → Nat → Int32 → Int32 → Option Hp
  | 0, _, _, _, _, _ => none
  | n9 + 1, h, a0, a1, a2, a3 => f_X7_fills_3 (f_X7_fills n9) 4096 a0 a1 a3 a2 h
set_option maxHeartbeats 4000000 in
set_option maxRecDepth 100000 in
theorem t_X7_fills {g : GT} {l : Launch} : ∀ (n9 : Nat) {h : Hp} {a0 : Nat} {a1 : Nat} {a2 : Int32} {a3 : Int32} {r : Hp}, f_X7_fills n9 h a0 a1 a2 a3 = some r → PM g l (2 * n9) 0 0 yX7_fills wsX7_fills [.ref a0, .ref a1, .int a2, .int a3] h (fun r9 h9 => r9 = none ∧ h9 = r) := by
  intro n9
  induction n9 with
  | zero => intro h a0 a1 a2 a3 r hf; cases hf
  | succ n9 ih9 =>
    intro h a0 a1 a2 a3 r hf
    show PM g l (2 * n9 + 2) _ _ _ _ _ _ _
    have hrec : ∀ h a0 a1 a2 a3 r, f_X7_fills n9 h a0 a1 a2 a3 = some r → PM g l (2 * n9) 0 0 yX7_fills wsX7_fills [.ref a0, .ref a1, .int a2, .int a3] h (fun r9 h9 => r9 = none ∧ h9 = r) := fun h a0 a1 a2 a3 r e => ih9 e
    refine pm_of (M := m_X7_fills) (by decide) rfl rfl rfl (Nat.le_of_ble_eq_true rfl) (lo := [some (.ref a0), some (.ref a1), some (.int a2), some (.int a3), none, none]) rfl ?_
    rw [f_X7_fills] at hf
    refine pw_iload_n dX7_fills_0 rfl ?_
    refine pw_istore dX7_fills_1 (by decide) rfl ?_
    dsimp only [lset, lset2, clr]
    exact pw_lo (lle_s rfl (lle_s rfl (lle_n (lle_s rfl (lle_s rfl (lle_n lle_0)))))) (w_X7_fills_3 hrec 4096 _ _ _ _ _ hf)
/-! X7_all -/
abbrev m_X7_all : MD := (cX7_all, RX7, "all", wsX7_all, 4, (some .int))
theorem w9_X7_all_X7 : ∀ w ∈ u_ws RX7 TX7 31, w ∈ wsX7_all := by decide +kernel
theorem hd9_X7_all : yX7_all.cls = RX7 ∧ yX7_all.cls ≠ "java/lang/invoke/MethodHandle" ∧ yX7_all.cls ≠ "java/lang/invoke/VarHandle" ∧ (parseMethodDescriptor yX7_all.desc).map (fun d => d.parameters.length) = some 2 := by decide +kernel
def f_X7_all_38 : Nat → Nat → Nat → Int32 → Hp → Option (Int32 × Hp)
  | 0, _, _, _, _ => none
  | n + 1, v0, v1, v3, h => if (320 : Int32) ≤ v3 then (if oK h v0 7 = true then (f_X7_isEven h v0 v1).bind fun x1 => if x1 = 0 then ((gI h v0 7 24).bind fun x2 => some ((x2, h))) else ((aI h 0 v1 (2 : Int32)).bind fun x3 => if oK h v0 7 = true then (f_X7_fills 20 h v0 v1 (1 : Int32) x3).bind fun h4 => (gI h4 v0 7 24).bind fun x5 => some ((x5, h4)) else none) else none) else ((gR h v0 7 23).bind fun x6 => (sI h 0 x6 v3 (0 : Int32)).bind fun h7 => f_X7_all_38 n v0 v1 (v3 + (1)) h7)
set_option maxHeartbeats 4000000 in
set_option maxRecDepth 100000 in
theorem w_X7_all_38 {g : GT} {l : Launch} {r : (Int32 × Hp)} : ∀ (n : Nat) (v0 : Nat) (v1 : Nat) (v3 : Int32) (h : Hp), f_X7_all_38 n v0 v1 v3 h = some r → PW g l m_X7_all 41 0 0 38 [some (.ref v0), some (.ref v1), none, some (.int v3)] [] h (fun r9 h9 => r9 = some (.int r.1) ∧ h9 = r.2) := by
  intro n
  induction n with
  | zero => intro v0 v1 v3 h hf; cases hf
  | succ n ih =>
    intro v0 v1 v3 h hf
    rw [f_X7_all_38] at hf
    refine pw_iload_n dX7_all_38 rfl ?_
    refine pw_sipush (v := (320)) dX7_all_39 (by decide) ?_
    refine q_icmp_ge (tgt := 58) hf dX7_all_42 (by decide) (fun hf _ => ?_) (fun hf _ => ?_)
    · refine pw_aload_n dX7_all_58 rfl ?_
      refine pw_aload_n dX7_all_59 rfl ?_
      refine q_callV_i (kc2 := 0) (ks2 := 0) (as := [.ref v1]) (rest := []) hf (fun x9 e9 => t_X7_isEven e9) gX7_all_X7_isEven rfl hd9_X7_isEven rfl rfl ⟨(by decide), by decide⟩ ⟨rfl, rfl⟩ (Nat.le_of_ble_eq_true rfl) dX7_all_60 rfl (fun x1 hf => ?_)
      refine q_if_eq (tgt := 75) hf dX7_all_63 (by decide) (fun hf _ => ?_) (fun hf _ => ?_)
      · refine pw_aload_n dX7_all_75 rfl ?_
        refine q_gI hf rfl (by decide) w9_X7_all_X7 (by decide +kernel) dX7_all_76 (fun x2 hf => ?_)
        exact pw_iret (x := x2) rfl rfl dX7_all_79 (ret_iw hf)
      · refine pw_aload_n dX7_all_66 rfl ?_
        refine pw_aload_n dX7_all_67 rfl ?_
        refine pw_iconst (v := (1)) dX7_all_68 (by decide) ?_
        refine pw_aload_n dX7_all_69 rfl ?_
        refine pw_iconst (v := (2)) dX7_all_70 (by decide) ?_
        refine q_iald hf dX7_all_71 (fun x3 hf => ?_)
        refine q_callV_v (kc2 := 0) (ks2 := 0) (as := [.ref v1, .int (1 : Int32), .int x3]) (rest := []) hf (fun x9 e9 => t_X7_fills 20 e9) gX7_all_X7_fills rfl hd9_X7_fills rfl rfl ⟨(by decide), by decide⟩ ⟨rfl, rfl⟩ (Nat.le_of_ble_eq_true rfl) dX7_all_72 rfl (fun h4 hf => ?_)
        refine pw_aload_n dX7_all_75 rfl ?_
        refine q_gI hf rfl (by decide) w9_X7_all_X7 (by decide +kernel) dX7_all_76 (fun x5 hf => ?_)
        exact pw_iret (x := x5) rfl rfl dX7_all_79 (ret_iw hf)
    · refine pw_aload_n dX7_all_45 rfl ?_
      refine q_gR hf rfl (by decide) w9_X7_all_X7 (by decide +kernel) dX7_all_46 (fun x6 hf => ?_)
      refine pw_iload_n dX7_all_49 rfl ?_
      refine pw_iconst (v := (0)) dX7_all_50 (by decide) ?_
      refine q_iast hf dX7_all_51 (fun h7 hf => ?_)
      refine pw_iinc (v := v3 + (1)) dX7_all_52 rfl rfl (by decide) rfl ?_
      dsimp only [lset, lset2, clr]
      refine pw_goto (tgt := 38) dX7_all_55 (by decide) ?_
      exact pw_lo (lle_s rfl (lle_s rfl (lle_n (lle_s rfl lle_0)))) (ih _ _ _ _ hf)
def f_X7_all_17 : Nat → Nat → Nat → Int32 → Hp → Option (Int32 × Hp)
  | 0, _, _, _, _ => none
  | n + 1, v0, v1, v3, h => if (18 : Int32) ≤ v3 then (f_X7_all_38 4096 v0 v1 (0 : Int32) h) else ((gR h v0 7 20).bind fun x1 => (sI h 0 x1 v3 (0 : Int32)).bind fun h2 => f_X7_all_17 n v0 v1 (v3 + (1)) h2)
set_option maxHeartbeats 4000000 in
set_option maxRecDepth 100000 in
theorem w_X7_all_17 {g : GT} {l : Launch} {r : (Int32 × Hp)} : ∀ (n : Nat) (v0 : Nat) (v1 : Nat) (v3 : Int32) (h : Hp), f_X7_all_17 n v0 v1 v3 h = some r → PW g l m_X7_all 41 0 0 17 [some (.ref v0), some (.ref v1), none, some (.int v3)] [] h (fun r9 h9 => r9 = some (.int r.1) ∧ h9 = r.2) := by
  intro n
  induction n with
  | zero => intro v0 v1 v3 h hf; cases hf
  | succ n ih =>
    intro v0 v1 v3 h hf
    rw [f_X7_all_17] at hf
    refine pw_iload_n dX7_all_17 rfl ?_
    refine pw_bipush (v := (18)) dX7_all_18 (by decide) ?_
    refine q_icmp_ge (tgt := 36) hf dX7_all_20 (by decide) (fun hf _ => ?_) (fun hf _ => ?_)
    · refine pw_iconst (v := (0)) dX7_all_36 (by decide) ?_
      refine pw_istore_n dX7_all_37 (by decide) rfl ?_
      dsimp only [lset, lset2, clr]
      exact pw_lo (lle_s rfl (lle_s rfl (lle_n (lle_s rfl lle_0)))) (w_X7_all_38 4096 _ _ _ _ hf)
    · refine pw_aload_n dX7_all_23 rfl ?_
      refine q_gR hf rfl (by decide) w9_X7_all_X7 (by decide +kernel) dX7_all_24 (fun x1 hf => ?_)
      refine pw_iload_n dX7_all_27 rfl ?_
      refine pw_iconst (v := (0)) dX7_all_28 (by decide) ?_
      refine q_iast hf dX7_all_29 (fun h2 hf => ?_)
      refine pw_iinc (v := v3 + (1)) dX7_all_30 rfl rfl (by decide) rfl ?_
      dsimp only [lset, lset2, clr]
      refine pw_goto (tgt := 17) dX7_all_33 (by decide) ?_
      exact pw_lo (lle_s rfl (lle_s rfl (lle_n (lle_s rfl lle_0)))) (ih _ _ _ _ hf)
def f_X7_all (h : Hp) (a0 : Nat) (a1 : Nat) (a2 : Int32) : Option (Int32 × Hp) := (pV h a0 7 24 (.int (0 : Int32))).bind fun h1 => (pV h1 a0 7 25 (.int a2)).bind fun h2 => (pV h2 a0 7 26 (.int (-1 : Int32))).bind fun h3 => f_X7_all_17 4096 a0 a1 (0 : Int32) h3
set_option maxHeartbeats 4000000 in
set_option maxRecDepth 100000 in
theorem t_X7_all {g : GT} {l : Launch} {h : Hp} {a0 : Nat} {a1 : Nat} {a2 : Int32} {r : (Int32 × Hp)} (hf : f_X7_all h a0 a1 a2 = some r) : PM g l 41 0 0 yX7_all wsX7_all [.ref a0, .ref a1, .int a2] h (fun r9 h9 => r9 = some (.int r.1) ∧ h9 = r.2) := by
  refine pm_of (M := m_X7_all) (by decide) rfl rfl rfl (Nat.le_of_ble_eq_true rfl) (lo := [some (.ref a0), some (.ref a1), some (.int a2), none]) rfl ?_
  rw [f_X7_all] at hf
  refine pw_aload_n dX7_all_0 rfl ?_
  refine pw_iconst (v := (0)) dX7_all_1 (by decide) ?_
  refine q_pV (ty := .int) hf tyX7 tyX7_ok nmX7 rfl (by decide) w9_X7_all_X7 (by decide +kernel) rfl (by decide +kernel) rfl rfl dX7_all_2 (fun h1 hf => ?_)
  refine pw_aload_n dX7_all_5 rfl ?_
  refine pw_iload_n dX7_all_6 rfl ?_
  refine q_pV (ty := .int) hf tyX7 tyX7_ok nmX7 rfl (by decide) w9_X7_all_X7 (by decide +kernel) rfl (by decide +kernel) rfl rfl dX7_all_7 (fun h2 hf => ?_)
  refine pw_aload_n dX7_all_10 rfl ?_
  refine pw_iconst (v := (-1)) dX7_all_11 (by decide) ?_
  refine q_pV (ty := .int) hf tyX7 tyX7_ok nmX7 rfl (by decide) w9_X7_all_X7 (by decide +kernel) rfl (by decide +kernel) rfl rfl dX7_all_12 (fun h3 hf => ?_)
  refine pw_iconst (v := (0)) dX7_all_15 (by decide) ?_
  refine pw_istore_n dX7_all_16 (by decide) rfl ?_
  dsimp only [lset, lset2, clr]
  exact pw_lo (lle_s rfl (lle_s rfl (lle_n (lle_s rfl lle_0)))) (w_X7_all_17 4096 _ _ _ _ hf)
/-! X7_ways -/
abbrev m_X7_ways : MD := (cX7_ways, RX7, "ways", wsX7_ways, 1, (some .int))
theorem w9_X7_ways_X7 : ∀ w ∈ u_ws RX7 TX7 31, w ∈ wsX7_ways := by decide +kernel
theorem hd9_X7_ways : yX7_ways.cls = RX7 ∧ yX7_ways.cls ≠ "java/lang/invoke/MethodHandle" ∧ yX7_ways.cls ≠ "java/lang/invoke/VarHandle" ∧ (parseMethodDescriptor yX7_ways.desc).map (fun d => d.parameters.length) = some 0 := by decide +kernel
def f_X7_ways (h : Hp) (a0 : Nat) : Option (Int32 × Hp) := (pV h a0 7 0 (.int (0 : Int32))).bind fun h1 => (gR h1 a0 7 11).bind fun x2 => if oK h1 a0 7 = true then (f_X7_all h1 a0 x2 (-1 : Int32)).bind fun x3 => some ((x3.1, x3.2)) else none
set_option maxHeartbeats 4000000 in
set_option maxRecDepth 100000 in
theorem t_X7_ways {g : GT} {l : Launch} {h : Hp} {a0 : Nat} {r : (Int32 × Hp)} (hf : f_X7_ways h a0 = some r) : PM g l 42 0 0 yX7_ways wsX7_ways [.ref a0] h (fun r9 h9 => r9 = some (.int r.1) ∧ h9 = r.2) := by
  refine pm_of (M := m_X7_ways) (by decide) rfl rfl rfl (Nat.le_of_ble_eq_true rfl) (lo := [some (.ref a0)]) rfl ?_
  rw [f_X7_ways] at hf
  refine pw_aload_n dX7_ways_0 rfl ?_
  refine pw_iconst (v := (0)) dX7_ways_1 (by decide) ?_
  refine q_pV (ty := .int) hf tyX7 tyX7_ok nmX7 rfl (by decide) w9_X7_ways_X7 (by decide +kernel) rfl (by decide +kernel) rfl rfl dX7_ways_2 (fun h1 hf => ?_)
  refine pw_aload_n dX7_ways_5 rfl ?_
  refine pw_aload_n dX7_ways_6 rfl ?_
  refine q_gR hf rfl (by decide) w9_X7_ways_X7 (by decide +kernel) dX7_ways_7 (fun x2 hf => ?_)
  refine pw_iconst (v := (-1)) dX7_ways_10 (by decide) ?_
  refine q_callV_iw (kc2 := 0) (ks2 := 0) (as := [.ref x2, .int (-1 : Int32)]) (rest := []) hf (fun x9 e9 => t_X7_all e9) gX7_ways_X7_all rfl hd9_X7_all rfl rfl ⟨(by decide), by decide⟩ ⟨rfl, rfl⟩ (Nat.le_of_ble_eq_true rfl) dX7_ways_11 rfl (fun x3 hf => ?_)
  exact pw_iret (x := x3.1) rfl rfl dX7_ways_14 (ret_iw hf)
/-! X7_looks -/
abbrev m_X7_looks : MD := (cX7_looks, RX7, "looks", wsX7_looks, 4, none)
theorem w9_X7_looks_X7 : ∀ w ∈ u_ws RX7 TX7 31, w ∈ wsX7_looks := by decide +kernel
theorem hd9_X7_looks : yX7_looks.cls = RX7 ∧ yX7_looks.cls ≠ "java/lang/invoke/MethodHandle" ∧ yX7_looks.cls ≠ "java/lang/invoke/VarHandle" ∧ (parseMethodDescriptor yX7_looks.desc).map (fun d => d.parameters.length) = some 2 := by decide +kernel
def f_X7_looks_7 : Nat → Nat → Nat → Int32 → Int32 → Hp → Option Hp
  | 0, _, _, _, _, _ => none
  | n + 1, v0, v1, v2, v3, h => if v2 ≤ v3 then (some h) else ((gR h v0 7 27).bind fun x1 => (aI h 0 v1 v3).bind fun x2 => (sI h 0 x1 v3 x2).bind fun h3 => f_X7_looks_7 n v0 v1 v2 (v3 + (1)) h3)
set_option maxHeartbeats 4000000 in
set_option maxRecDepth 100000 in
theorem w_X7_looks_7 {g : GT} {l : Launch} {r : Hp} : ∀ (n : Nat) (v0 : Nat) (v1 : Nat) (v2 : Int32) (v3 : Int32) (h : Hp), f_X7_looks_7 n v0 v1 v2 v3 h = some r → PW g l m_X7_looks 1 0 0 7 [some (.ref v0), some (.ref v1), some (.int v2), some (.int v3)] [] h (fun r9 h9 => r9 = none ∧ h9 = r) := by
  intro n
  induction n with
  | zero => intro v0 v1 v2 v3 h hf; cases hf
  | succ n ih =>
    intro v0 v1 v2 v3 h hf
    rw [f_X7_looks_7] at hf
    refine pw_iload_n dX7_looks_7 rfl ?_
    refine pw_iload_n dX7_looks_8 rfl ?_
    refine q_icmp_ge (tgt := 27) hf dX7_looks_9 (by decide) (fun hf _ => ?_) (fun hf _ => ?_)
    · exact pw_vret rfl dX7_looks_27 ⟨rfl, Option.some.inj hf⟩
    · refine pw_aload_n dX7_looks_12 rfl ?_
      refine q_gR hf rfl (by decide) w9_X7_looks_X7 (by decide +kernel) dX7_looks_13 (fun x1 hf => ?_)
      refine pw_iload_n dX7_looks_16 rfl ?_
      refine pw_aload_n dX7_looks_17 rfl ?_
      refine pw_iload_n dX7_looks_18 rfl ?_
      refine q_iald hf dX7_looks_19 (fun x2 hf => ?_)
      refine q_iast hf dX7_looks_20 (fun h3 hf => ?_)
      refine pw_iinc (v := v3 + (1)) dX7_looks_21 rfl rfl (by decide) rfl ?_
      dsimp only [lset, lset2, clr]
      refine pw_goto (tgt := 7) dX7_looks_24 (by decide) ?_
      exact pw_lo (lle_s rfl (lle_s rfl (lle_s rfl (lle_s rfl lle_0)))) (ih _ _ _ _ _ hf)
def f_X7_looks (h : Hp) (a0 : Nat) (a1 : Nat) (a2 : Int32) : Option Hp := (pV h a0 7 28 (.int a2)).bind fun h1 => f_X7_looks_7 4096 a0 a1 a2 (0 : Int32) h1
set_option maxHeartbeats 4000000 in
set_option maxRecDepth 100000 in
theorem t_X7_looks {g : GT} {l : Launch} {h : Hp} {a0 : Nat} {a1 : Nat} {a2 : Int32} {r : Hp} (hf : f_X7_looks h a0 a1 a2 = some r) : PM g l 1 0 0 yX7_looks wsX7_looks [.ref a0, .ref a1, .int a2] h (fun r9 h9 => r9 = none ∧ h9 = r) := by
  refine pm_of (M := m_X7_looks) (by decide) rfl rfl rfl (Nat.le_of_ble_eq_true rfl) (lo := [some (.ref a0), some (.ref a1), some (.int a2), none]) rfl ?_
  rw [f_X7_looks] at hf
  refine pw_aload_n dX7_looks_0 rfl ?_
  refine pw_iload_n dX7_looks_1 rfl ?_
  refine q_pV (ty := .int) hf tyX7 tyX7_ok nmX7 rfl (by decide) w9_X7_looks_X7 (by decide +kernel) rfl (by decide +kernel) rfl rfl dX7_looks_2 (fun h1 hf => ?_)
  refine pw_iconst (v := (0)) dX7_looks_5 (by decide) ?_
  refine pw_istore_n dX7_looks_6 (by decide) rfl ?_
  dsimp only [lset, lset2, clr]
  exact pw_lo (lle_s rfl (lle_s rfl (lle_s rfl (lle_s rfl lle_0)))) (w_X7_looks_7 4096 _ _ _ _ _ hf)
/-! X7_row -/
abbrev m_X7_row : MD := (cX7_row, RX7, "row", wsX7_row, 2, (some .int))
theorem w9_X7_row_X7 : ∀ w ∈ u_ws RX7 TX7 31, w ∈ wsX7_row := by decide +kernel
theorem hd9_X7_row : yX7_row.cls = RX7 ∧ yX7_row.cls ≠ "java/lang/invoke/MethodHandle" ∧ yX7_row.cls ≠ "java/lang/invoke/VarHandle" ∧ (parseMethodDescriptor yX7_row.desc).map (fun d => d.parameters.length) = some 1 := by decide +kernel
def f_X7_row (h : Hp) (a0 : Nat) (a1 : Int32) : Option (Int32 × Hp) := (pV h a0 7 0 (.int (0 : Int32))).bind fun h1 => if a1 < 0 then (if oK h1 a0 7 = true then (f_X7_refuse h1 a0).bind fun x2 => some ((x2.1, x2.2)) else none) else ((gR h1 a0 7 11).bind fun x3 => if oK h1 a0 7 = true then (f_X7_all h1 a0 x3 a1).bind fun x4 => if a1 < x4.1 then ((gR x4.2 a0 7 21).bind fun x5 => (gR x4.2 a0 7 11).bind fun x6 => (aI x4.2 0 x6 (0 : Int32)).bind fun x7 => if oK x4.2 a0 7 = true then (f_X7_looks x4.2 a0 x5 x7).bind fun h8 => (gI h8 a0 7 28).bind fun x9 => if x9 = 0 then (some (((-1 : Int32), h8))) else ((gR h8 a0 7 27).bind fun x10 => (aI h8 0 x10 (0 : Int32)).bind fun x11 => some ((x11, h8))) else none) else (if oK x4.2 a0 7 = true then (f_X7_refuse x4.2 a0).bind fun x12 => some ((x12.1, x12.2)) else none) else none)
set_option maxHeartbeats 4000000 in
set_option maxRecDepth 100000 in
theorem t_X7_row {g : GT} {l : Launch} {h : Hp} {a0 : Nat} {a1 : Int32} {r : (Int32 × Hp)} (hf : f_X7_row h a0 a1 = some r) : PM g l 42 0 0 yX7_row wsX7_row [.ref a0, .int a1] h (fun r9 h9 => r9 = some (.int r.1) ∧ h9 = r.2) := by
  refine pm_of (M := m_X7_row) (by decide) rfl rfl rfl (Nat.le_of_ble_eq_true rfl) (lo := [some (.ref a0), some (.int a1)]) rfl ?_
  rw [f_X7_row] at hf
  refine pw_aload_n dX7_row_0 rfl ?_
  refine pw_iconst (v := (0)) dX7_row_1 (by decide) ?_
  refine q_pV (ty := .int) hf tyX7 tyX7_ok nmX7 rfl (by decide) w9_X7_row_X7 (by decide +kernel) rfl (by decide +kernel) rfl rfl dX7_row_2 (fun h1 hf => ?_)
  refine pw_iload_n dX7_row_5 rfl ?_
  refine q_if_lt (tgt := 22) hf dX7_row_6 (by decide) (fun hf _ => ?_) (fun hf _ => ?_)
  · refine pw_aload_n dX7_row_22 rfl ?_
    refine q_callV_iw (kc2 := 0) (ks2 := 0) (as := []) (rest := []) hf (fun x9 e9 => t_X7_refuse e9) gX7_row_X7_refuse rfl hd9_X7_refuse rfl rfl ⟨(by decide), by decide⟩ ⟨rfl, rfl⟩ (Nat.le_of_ble_eq_true rfl) dX7_row_23 rfl (fun x2 hf => ?_)
    exact pw_iret (x := x2.1) rfl rfl dX7_row_26 (ret_iw hf)
  · refine pw_iload_n dX7_row_9 rfl ?_
    refine pw_aload_n dX7_row_10 rfl ?_
    refine pw_aload_n dX7_row_11 rfl ?_
    refine q_gR hf rfl (by decide) w9_X7_row_X7 (by decide +kernel) dX7_row_12 (fun x3 hf => ?_)
    refine pw_iload_n dX7_row_15 rfl ?_
    refine q_callV_iw (kc2 := 0) (ks2 := 0) (as := [.ref x3, .int a1]) (rest := [.int a1]) hf (fun x9 e9 => t_X7_all e9) gX7_row_X7_all rfl hd9_X7_all rfl rfl ⟨(by decide), by decide⟩ ⟨rfl, rfl⟩ (Nat.le_of_ble_eq_true rfl) dX7_row_16 rfl (fun x4 hf => ?_)
    refine q_icmp_lt (tgt := 27) hf dX7_row_19 (by decide) (fun hf _ => ?_) (fun hf _ => ?_)
    · refine pw_aload_n dX7_row_27 rfl ?_
      refine pw_aload_n dX7_row_28 rfl ?_
      refine q_gR hf rfl (by decide) w9_X7_row_X7 (by decide +kernel) dX7_row_29 (fun x5 hf => ?_)
      refine pw_aload_n dX7_row_32 rfl ?_
      refine q_gR hf rfl (by decide) w9_X7_row_X7 (by decide +kernel) dX7_row_33 (fun x6 hf => ?_)
      refine pw_iconst (v := (0)) dX7_row_36 (by decide) ?_
      refine q_iald hf dX7_row_37 (fun x7 hf => ?_)
      refine q_callV_v (kc2 := 0) (ks2 := 0) (as := [.ref x5, .int x7]) (rest := []) hf (fun x9 e9 => t_X7_looks e9) gX7_row_X7_looks rfl hd9_X7_looks rfl rfl ⟨(by decide), by decide⟩ ⟨rfl, rfl⟩ (Nat.le_of_ble_eq_true rfl) dX7_row_38 rfl (fun h8 hf => ?_)
      refine pw_aload_n dX7_row_41 rfl ?_
      refine q_gI hf rfl (by decide) w9_X7_row_X7 (by decide +kernel) dX7_row_42 (fun x9 hf => ?_)
      refine q_if_ne (tgt := 52) hf dX7_row_45 (by decide) (fun hf _ => ?_) (fun hf _ => ?_)
      · refine pw_aload_n dX7_row_52 rfl ?_
        refine q_gR hf rfl (by decide) w9_X7_row_X7 (by decide +kernel) dX7_row_53 (fun x10 hf => ?_)
        refine pw_iconst (v := (0)) dX7_row_56 (by decide) ?_
        refine q_iald hf dX7_row_57 (fun x11 hf => ?_)
        exact pw_iret (x := x11) rfl rfl dX7_row_58 (ret_iw hf)
      · refine pw_iconst (v := (-1)) dX7_row_48 (by decide) ?_
        refine pw_goto (tgt := 58) dX7_row_49 (by decide) ?_
        exact pw_iret (x := (-1 : Int32)) rfl rfl dX7_row_58 (ret_iw hf)
    · refine pw_aload_n dX7_row_22 rfl ?_
      refine q_callV_iw (kc2 := 0) (ks2 := 0) (as := []) (rest := []) hf (fun x9 e9 => t_X7_refuse e9) gX7_row_X7_refuse rfl hd9_X7_refuse rfl rfl ⟨(by decide), by decide⟩ ⟨rfl, rfl⟩ (Nat.le_of_ble_eq_true rfl) dX7_row_23 rfl (fun x12 hf => ?_)
      exact pw_iret (x := x12.1) rfl rfl dX7_row_26 (ret_iw hf)
/-! X7_at -/
abbrev m_X7_at : MD := (cX7_at, RX7, "at", wsX7_at, 2, (some .int))
theorem w9_X7_at_X7 : ∀ w ∈ u_ws RX7 TX7 31, w ∈ wsX7_at := by decide +kernel
theorem hd9_X7_at : yX7_at.cls = RX7 ∧ yX7_at.cls ≠ "java/lang/invoke/MethodHandle" ∧ yX7_at.cls ≠ "java/lang/invoke/VarHandle" ∧ (parseMethodDescriptor yX7_at.desc).map (fun d => d.parameters.length) = some 1 := by decide +kernel
def f_X7_at (h : Hp) (a0 : Nat) (a1 : Int32) : Option (Int32 × Hp) := (pV h a0 7 0 (.int (0 : Int32))).bind fun h1 => (gI h1 a0 7 28).bind fun x2 => (f_X7_isIn h1 a1 (1 : Int32) x2).bind fun x3 => if x3 = 0 then (some (((-1 : Int32), h1))) else ((gR h1 a0 7 27).bind fun x4 => (aI h1 0 x4 (a1 - (1 : Int32))).bind fun x5 => some ((x5, h1)))
set_option maxHeartbeats 4000000 in
set_option maxRecDepth 100000 in
theorem t_X7_at {g : GT} {l : Launch} {h : Hp} {a0 : Nat} {a1 : Int32} {r : (Int32 × Hp)} (hf : f_X7_at h a0 a1 = some r) : PM g l 2 0 0 yX7_at wsX7_at [.ref a0, .int a1] h (fun r9 h9 => r9 = some (.int r.1) ∧ h9 = r.2) := by
  refine pm_of (M := m_X7_at) (by decide) rfl rfl rfl (Nat.le_of_ble_eq_true rfl) (lo := [some (.ref a0), some (.int a1)]) rfl ?_
  rw [f_X7_at] at hf
  refine pw_aload_n dX7_at_0 rfl ?_
  refine pw_iconst (v := (0)) dX7_at_1 (by decide) ?_
  refine q_pV (ty := .int) hf tyX7 tyX7_ok nmX7 rfl (by decide) w9_X7_at_X7 (by decide +kernel) rfl (by decide +kernel) rfl rfl dX7_at_2 (fun h1 hf => ?_)
  refine pw_iload_n dX7_at_5 rfl ?_
  refine pw_iconst (v := (1)) dX7_at_6 (by decide) ?_
  refine pw_aload_n dX7_at_7 rfl ?_
  refine q_gI hf rfl (by decide) w9_X7_at_X7 (by decide +kernel) dX7_at_8 (fun x2 hf => ?_)
  refine q_callS_i (kc2 := 0) (ks2 := 0) (as := [.int a1, .int (1 : Int32), .int x2]) (rest := []) hf (fun x9 e9 => t_X7_isIn e9) gX7_at_X7_isIn rfl hd9_X7_isIn rfl ⟨(by decide), by decide⟩ ⟨rfl, rfl⟩ (Nat.le_of_ble_eq_true rfl) dX7_at_11 rfl (fun x3 hf => ?_)
  refine q_if_eq (tgt := 28) hf dX7_at_14 (by decide) (fun hf _ => ?_) (fun hf _ => ?_)
  · refine pw_iconst (v := (-1)) dX7_at_28 (by decide) ?_
    exact pw_iret (x := (-1 : Int32)) rfl rfl dX7_at_29 (ret_iw hf)
  · refine pw_aload_n dX7_at_17 rfl ?_
    refine q_gR hf rfl (by decide) w9_X7_at_X7 (by decide +kernel) dX7_at_18 (fun x4 hf => ?_)
    refine pw_iload_n dX7_at_21 rfl ?_
    refine pw_iconst (v := (1)) dX7_at_22 (by decide) ?_
    refine pw_isub dX7_at_23 ?_
    refine q_iald hf dX7_at_24 (fun x5 hf => ?_)
    refine pw_goto (tgt := 29) dX7_at_25 (by decide) ?_
    exact pw_iret (x := x5) rfl rfl dX7_at_29 (ret_iw hf)
/-! X7_firstOf -/
abbrev m_X7_firstOf : MD := (cX7_firstOf, RX7, "firstOf", wsX7_firstOf, 3, (some .int))
theorem w9_X7_firstOf_X7 : ∀ w ∈ u_ws RX7 TX7 31, w ∈ wsX7_firstOf := by decide +kernel
theorem hd9_X7_firstOf : yX7_firstOf.cls = RX7 ∧ yX7_firstOf.cls ≠ "java/lang/invoke/MethodHandle" ∧ yX7_firstOf.cls ≠ "java/lang/invoke/VarHandle" ∧ (parseMethodDescriptor yX7_firstOf.desc).map (fun d => d.parameters.length) = some 1 := by decide +kernel
def f_X7_firstOf_2 : Nat → Nat → Int32 → Int32 → Hp → Option Int32
  | 0, _, _, _, _ => none
  | n + 1, v0, v1, v2, h => (gI h v0 7 28).bind fun x1 => if x1 ≤ v2 then (some ((-1 : Int32))) else (if v1 ≤ 0 then (some ((-1 : Int32))) else ((gR h v0 7 27).bind fun x2 => (aI h 0 x2 v2).bind fun x3 => if x3 = v1 then (some (v2 + (1 : Int32))) else (f_X7_firstOf_2 n v0 v1 (v2 + (1)) h)))
set_option maxHeartbeats 4000000 in
set_option maxRecDepth 100000 in
theorem w_X7_firstOf_2 {g : GT} {l : Launch} {r : Int32} : ∀ (n : Nat) (v0 : Nat) (v1 : Int32) (v2 : Int32) (h : Hp), f_X7_firstOf_2 n v0 v1 v2 h = some r → PW g l m_X7_firstOf 1 0 0 2 [some (.ref v0), some (.int v1), some (.int v2)] [] h (fun r9 h9 => r9 = some (.int r) ∧ h9 = h) := by
  intro n
  induction n with
  | zero => intro v0 v1 v2 h hf; cases hf
  | succ n ih =>
    intro v0 v1 v2 h hf
    rw [f_X7_firstOf_2] at hf
    refine pw_iload_n dX7_firstOf_2 rfl ?_
    refine pw_aload_n dX7_firstOf_3 rfl ?_
    refine q_gI hf rfl (by decide) w9_X7_firstOf_X7 (by decide +kernel) dX7_firstOf_4 (fun x1 hf => ?_)
    refine q_icmp_ge (tgt := 34) hf dX7_firstOf_7 (by decide) (fun hf _ => ?_) (fun hf _ => ?_)
    · refine pw_iconst (v := (-1)) dX7_firstOf_34 (by decide) ?_
      exact pw_iret (x := (-1 : Int32)) rfl rfl dX7_firstOf_35 ⟨congrArg (fun z => some (Value.int z)) (Option.some.inj hf), rfl⟩
    · refine pw_iload_n dX7_firstOf_10 rfl ?_
      refine q_if_le (tgt := 34) hf dX7_firstOf_11 (by decide) (fun hf _ => ?_) (fun hf _ => ?_)
      · refine pw_iconst (v := (-1)) dX7_firstOf_34 (by decide) ?_
        exact pw_iret (x := (-1 : Int32)) rfl rfl dX7_firstOf_35 ⟨congrArg (fun z => some (Value.int z)) (Option.some.inj hf), rfl⟩
      · refine pw_aload_n dX7_firstOf_14 rfl ?_
        refine q_gR hf rfl (by decide) w9_X7_firstOf_X7 (by decide +kernel) dX7_firstOf_15 (fun x2 hf => ?_)
        refine pw_iload_n dX7_firstOf_18 rfl ?_
        refine q_iald hf dX7_firstOf_19 (fun x3 hf => ?_)
        refine pw_iload_n dX7_firstOf_20 rfl ?_
        refine q_icmp_ne (tgt := 28) hf dX7_firstOf_21 (by decide) (fun hf _ => ?_) (fun hf _ => ?_)
        · refine pw_iinc (v := v2 + (1)) dX7_firstOf_28 rfl rfl (by decide) rfl ?_
          dsimp only [lset, lset2, clr]
          refine pw_goto (tgt := 2) dX7_firstOf_31 (by decide) ?_
          exact pw_lo (lle_s rfl (lle_s rfl (lle_s rfl lle_0))) (ih _ _ _ _ hf)
        · refine pw_iload_n dX7_firstOf_24 rfl ?_
          refine pw_iconst (v := (1)) dX7_firstOf_25 (by decide) ?_
          refine pw_iadd dX7_firstOf_26 ?_
          exact pw_iret (x := v2 + (1 : Int32)) rfl rfl dX7_firstOf_27 ⟨congrArg (fun z => some (Value.int z)) (Option.some.inj hf), rfl⟩
def f_X7_firstOf (h : Hp) (a0 : Nat) (a1 : Int32) : Option Int32 := f_X7_firstOf_2 4096 a0 a1 (0 : Int32) h
set_option maxHeartbeats 4000000 in
set_option maxRecDepth 100000 in
theorem t_X7_firstOf {g : GT} {l : Launch} {h : Hp} {a0 : Nat} {a1 : Int32} {r : Int32} (hf : f_X7_firstOf h a0 a1 = some r) : PM g l 1 0 0 yX7_firstOf wsX7_firstOf [.ref a0, .int a1] h (fun r9 h9 => r9 = some (.int r) ∧ h9 = h) := by
  refine pm_of (M := m_X7_firstOf) (by decide) rfl rfl rfl (Nat.le_of_ble_eq_true rfl) (lo := [some (.ref a0), some (.int a1), none]) rfl ?_
  rw [f_X7_firstOf] at hf
  refine pw_iconst (v := (0)) dX7_firstOf_0 (by decide) ?_
  refine pw_istore_n dX7_firstOf_1 (by decide) rfl ?_
  dsimp only [lset, lset2, clr]
  exact pw_lo (lle_s rfl (lle_s rfl (lle_s rfl lle_0))) (w_X7_firstOf_2 4096 _ _ _ _ hf)
/-! X7_first -/
abbrev m_X7_first : MD := (cX7_first, RX7, "first", wsX7_first, 2, (some .int))
theorem w9_X7_first_X7 : ∀ w ∈ u_ws RX7 TX7 31, w ∈ wsX7_first := by decide +kernel
theorem hd9_X7_first : yX7_first.cls = RX7 ∧ yX7_first.cls ≠ "java/lang/invoke/MethodHandle" ∧ yX7_first.cls ≠ "java/lang/invoke/VarHandle" ∧ (parseMethodDescriptor yX7_first.desc).map (fun d => d.parameters.length) = some 1 := by decide +kernel
def f_X7_first (h : Hp) (a0 : Nat) (a1 : Int32) : Option (Int32 × Hp) := (pV h a0 7 0 (.int (0 : Int32))).bind fun h1 => if oK h1 a0 7 = true then (f_X7_firstOf h1 a0 a1).bind fun x2 => some ((x2, h1)) else none
set_option maxHeartbeats 4000000 in
set_option maxRecDepth 100000 in
theorem t_X7_first {g : GT} {l : Launch} {h : Hp} {a0 : Nat} {a1 : Int32} {r : (Int32 × Hp)} (hf : f_X7_first h a0 a1 = some r) : PM g l 2 0 0 yX7_first wsX7_first [.ref a0, .int a1] h (fun r9 h9 => r9 = some (.int r.1) ∧ h9 = r.2) := by
  refine pm_of (M := m_X7_first) (by decide) rfl rfl rfl (Nat.le_of_ble_eq_true rfl) (lo := [some (.ref a0), some (.int a1)]) rfl ?_
  rw [f_X7_first] at hf
  refine pw_aload_n dX7_first_0 rfl ?_
  refine pw_iconst (v := (0)) dX7_first_1 (by decide) ?_
  refine q_pV (ty := .int) hf tyX7 tyX7_ok nmX7 rfl (by decide) w9_X7_first_X7 (by decide +kernel) rfl (by decide +kernel) rfl rfl dX7_first_2 (fun h1 hf => ?_)
  refine pw_aload_n dX7_first_5 rfl ?_
  refine pw_iload_n dX7_first_6 rfl ?_
  refine q_callV_i (kc2 := 0) (ks2 := 0) (as := [.int a1]) (rest := []) hf (fun x9 e9 => t_X7_firstOf e9) gX7_first_X7_firstOf rfl hd9_X7_firstOf rfl rfl ⟨(by decide), by decide⟩ ⟨rfl, rfl⟩ (Nat.le_of_ble_eq_true rfl) dX7_first_7 rfl (fun x2 hf => ?_)
  exact pw_iret (x := x2) rfl rfl dX7_first_10 (ret_iw hf)
/-! X7_ranked -/
abbrev m_X7_ranked : MD := (cX7_ranked, RX7, "ranked", wsX7_ranked, 1, (some .int))
theorem w9_X7_ranked_X7 : ∀ w ∈ u_ws RX7 TX7 31, w ∈ wsX7_ranked := by decide +kernel
theorem hd9_X7_ranked : yX7_ranked.cls = RX7 ∧ yX7_ranked.cls ≠ "java/lang/invoke/MethodHandle" ∧ yX7_ranked.cls ≠ "java/lang/invoke/VarHandle" ∧ (parseMethodDescriptor yX7_ranked.desc).map (fun d => d.parameters.length) = some 0 := by decide +kernel
def f_X7_ranked (h : Hp) (a0 : Nat) : Option (Int32 × Hp) := (gR h a0 7 11).bind fun x1 => if oK h a0 7 = true then (f_X7_all h a0 x1 (-1 : Int32)).bind fun x2 => (gI x2.2 a0 7 26).bind fun x3 => if x3 = (-1 : Int32) then ((gI x2.2 a0 7 26).bind fun x4 => some ((x4, x2.2))) else ((gR x2.2 a0 7 22).bind fun x5 => (gR x2.2 a0 7 11).bind fun x6 => (aI x2.2 0 x6 (0 : Int32)).bind fun x7 => if oK x2.2 a0 7 = true then (f_X7_looks x2.2 a0 x5 x7).bind fun h8 => (gI h8 a0 7 26).bind fun x9 => some ((x9, h8)) else none) else none
set_option maxHeartbeats 4000000 in
set_option maxRecDepth 100000 in
theorem t_X7_ranked {g : GT} {l : Launch} {h : Hp} {a0 : Nat} {r : (Int32 × Hp)} (hf : f_X7_ranked h a0 = some r) : PM g l 42 0 0 yX7_ranked wsX7_ranked [.ref a0] h (fun r9 h9 => r9 = some (.int r.1) ∧ h9 = r.2) := by
  refine pm_of (M := m_X7_ranked) (by decide) rfl rfl rfl (Nat.le_of_ble_eq_true rfl) (lo := [some (.ref a0)]) rfl ?_
  rw [f_X7_ranked] at hf
  refine pw_aload_n dX7_ranked_0 rfl ?_
  refine pw_aload_n dX7_ranked_1 rfl ?_
  refine q_gR hf rfl (by decide) w9_X7_ranked_X7 (by decide +kernel) dX7_ranked_2 (fun x1 hf => ?_)
  refine pw_iconst (v := (-1)) dX7_ranked_5 (by decide) ?_
  refine q_callV_iw (kc2 := 0) (ks2 := 0) (as := [.ref x1, .int (-1 : Int32)]) (rest := []) hf (fun x9 e9 => t_X7_all e9) gX7_ranked_X7_all rfl hd9_X7_all rfl rfl ⟨(by decide), by decide⟩ ⟨rfl, rfl⟩ (Nat.le_of_ble_eq_true rfl) dX7_ranked_6 rfl (fun x2 hf => ?_)
  refine pw_pop dX7_ranked_9 rfl ?_
  refine pw_aload_n dX7_ranked_10 rfl ?_
  refine q_gI hf rfl (by decide) w9_X7_ranked_X7 (by decide +kernel) dX7_ranked_11 (fun x3 hf => ?_)
  refine pw_iconst (v := (-1)) dX7_ranked_14 (by decide) ?_
  refine q_icmp_eq (tgt := 32) hf dX7_ranked_15 (by decide) (fun hf _ => ?_) (fun hf _ => ?_)
  · refine pw_aload_n dX7_ranked_32 rfl ?_
    refine q_gI hf rfl (by decide) w9_X7_ranked_X7 (by decide +kernel) dX7_ranked_33 (fun x4 hf => ?_)
    exact pw_iret (x := x4) rfl rfl dX7_ranked_36 (ret_iw hf)
  · refine pw_aload_n dX7_ranked_18 rfl ?_
    refine pw_aload_n dX7_ranked_19 rfl ?_
    refine q_gR hf rfl (by decide) w9_X7_ranked_X7 (by decide +kernel) dX7_ranked_20 (fun x5 hf => ?_)
    refine pw_aload_n dX7_ranked_23 rfl ?_
    refine q_gR hf rfl (by decide) w9_X7_ranked_X7 (by decide +kernel) dX7_ranked_24 (fun x6 hf => ?_)
    refine pw_iconst (v := (0)) dX7_ranked_27 (by decide) ?_
    refine q_iald hf dX7_ranked_28 (fun x7 hf => ?_)
    refine q_callV_v (kc2 := 0) (ks2 := 0) (as := [.ref x5, .int x7]) (rest := []) hf (fun x9 e9 => t_X7_looks e9) gX7_ranked_X7_looks rfl hd9_X7_looks rfl rfl ⟨(by decide), by decide⟩ ⟨rfl, rfl⟩ (Nat.le_of_ble_eq_true rfl) dX7_ranked_29 rfl (fun h8 hf => ?_)
    refine pw_aload_n dX7_ranked_32 rfl ?_
    refine q_gI hf rfl (by decide) w9_X7_ranked_X7 (by decide +kernel) dX7_ranked_33 (fun x9 hf => ?_)
    exact pw_iret (x := x9) rfl rfl dX7_ranked_36 (ret_iw hf)
/-! X7_rank -/
abbrev m_X7_rank : MD := (cX7_rank, RX7, "rank", wsX7_rank, 3, (some .int))
theorem w9_X7_rank_X7 : ∀ w ∈ u_ws RX7 TX7 31, w ∈ wsX7_rank := by decide +kernel
theorem hd9_X7_rank : yX7_rank.cls = RX7 ∧ yX7_rank.cls ≠ "java/lang/invoke/MethodHandle" ∧ yX7_rank.cls ≠ "java/lang/invoke/VarHandle" ∧ (parseMethodDescriptor yX7_rank.desc).map (fun d => d.parameters.length) = some 0 := by decide +kernel
def f_X7_rank_29 : Nat → Nat → Int32 → Int32 → Hp → Option (Int32 × Hp)
  | 0, _, _, _, _ => none
  | n + 1, v0, v1, v2, h => if v1 ≤ v2 then (if oK h v0 7 = true then (f_X7_ranked h v0).bind fun x1 => some ((x1.1, x1.2)) else none) else ((gR h v0 7 22).bind fun x2 => (gR h v0 7 1).bind fun x3 => (aI h 0 x3 v2).bind fun x4 => (sI h 0 x2 v2 x4).bind fun h5 => f_X7_rank_29 n v0 v1 (v2 + (1)) h5)
set_option maxHeartbeats 4000000 in
set_option maxRecDepth 100000 in
theorem w_X7_rank_29 {g : GT} {l : Launch} {r : (Int32 × Hp)} : ∀ (n : Nat) (v0 : Nat) (v1 : Int32) (v2 : Int32) (h : Hp), f_X7_rank_29 n v0 v1 v2 h = some r → PW g l m_X7_rank 43 0 0 29 [some (.ref v0), some (.int v1), some (.int v2)] [] h (fun r9 h9 => r9 = some (.int r.1) ∧ h9 = r.2) := by
  intro n
  induction n with
  | zero => intro v0 v1 v2 h hf; cases hf
  | succ n ih =>
    intro v0 v1 v2 h hf
    rw [f_X7_rank_29] at hf
    refine pw_iload_n dX7_rank_29 rfl ?_
    refine pw_iload_n dX7_rank_30 rfl ?_
    refine q_icmp_ge (tgt := 52) hf dX7_rank_31 (by decide) (fun hf _ => ?_) (fun hf _ => ?_)
    · refine pw_aload_n dX7_rank_52 rfl ?_
      refine q_callV_iw (kc2 := 0) (ks2 := 0) (as := []) (rest := []) hf (fun x9 e9 => t_X7_ranked e9) gX7_rank_X7_ranked rfl hd9_X7_ranked rfl rfl ⟨(by decide), by decide⟩ ⟨rfl, rfl⟩ (Nat.le_of_ble_eq_true rfl) dX7_rank_53 rfl (fun x1 hf => ?_)
      exact pw_iret (x := x1.1) rfl rfl dX7_rank_56 (ret_iw hf)
    · refine pw_aload_n dX7_rank_34 rfl ?_
      refine q_gR hf rfl (by decide) w9_X7_rank_X7 (by decide +kernel) dX7_rank_35 (fun x2 hf => ?_)
      refine pw_iload_n dX7_rank_38 rfl ?_
      refine pw_aload_n dX7_rank_39 rfl ?_
      refine q_gR hf rfl (by decide) w9_X7_rank_X7 (by decide +kernel) dX7_rank_40 (fun x3 hf => ?_)
      refine pw_iload_n dX7_rank_43 rfl ?_
      refine q_iald hf dX7_rank_44 (fun x4 hf => ?_)
      refine q_iast hf dX7_rank_45 (fun h5 hf => ?_)
      refine pw_iinc (v := v2 + (1)) dX7_rank_46 rfl rfl (by decide) rfl ?_
      dsimp only [lset, lset2, clr]
      refine pw_goto (tgt := 29) dX7_rank_49 (by decide) ?_
      exact pw_lo (lle_s rfl (lle_s rfl (lle_s rfl lle_0))) (ih _ _ _ _ hf)
def f_X7_rank (h : Hp) (a0 : Nat) : Option (Int32 × Hp) := (pV h a0 7 0 (.int (0 : Int32))).bind fun h1 => (gI h1 a0 7 2).bind fun x2 => (pV h1 a0 7 2 (.int (0 : Int32))).bind fun h3 => (gR h3 a0 7 11).bind fun x4 => (aI h3 0 x4 (0 : Int32)).bind fun x5 => if x2 = x5 then (f_X7_rank_29 4096 a0 x2 (0 : Int32) h3) else (some (((-1 : Int32), h3)))
set_option maxHeartbeats 4000000 in
set_option maxRecDepth 100000 in
theorem t_X7_rank {g : GT} {l : Launch} {h : Hp} {a0 : Nat} {r : (Int32 × Hp)} (hf : f_X7_rank h a0 = some r) : PM g l 43 0 0 yX7_rank wsX7_rank [.ref a0] h (fun r9 h9 => r9 = some (.int r.1) ∧ h9 = r.2) := by
  refine pm_of (M := m_X7_rank) (by decide) rfl rfl rfl (Nat.le_of_ble_eq_true rfl) (lo := [some (.ref a0), none, none]) rfl ?_
  rw [f_X7_rank] at hf
  refine pw_aload_n dX7_rank_0 rfl ?_
  refine pw_iconst (v := (0)) dX7_rank_1 (by decide) ?_
  refine q_pV (ty := .int) hf tyX7 tyX7_ok nmX7 rfl (by decide) w9_X7_rank_X7 (by decide +kernel) rfl (by decide +kernel) rfl rfl dX7_rank_2 (fun h1 hf => ?_)
  refine pw_aload_n dX7_rank_5 rfl ?_
  refine q_gI hf rfl (by decide) w9_X7_rank_X7 (by decide +kernel) dX7_rank_6 (fun x2 hf => ?_)
  refine pw_istore_n dX7_rank_9 (by decide) rfl ?_
  dsimp only [lset, lset2, clr]
  refine pw_aload_n dX7_rank_10 rfl ?_
  refine pw_iconst (v := (0)) dX7_rank_11 (by decide) ?_
  refine q_pV (ty := .int) hf tyX7 tyX7_ok nmX7 rfl (by decide) w9_X7_rank_X7 (by decide +kernel) rfl (by decide +kernel) rfl rfl dX7_rank_12 (fun h3 hf => ?_)
  refine pw_iload_n dX7_rank_15 rfl ?_
  refine pw_aload_n dX7_rank_16 rfl ?_
  refine q_gR hf rfl (by decide) w9_X7_rank_X7 (by decide +kernel) dX7_rank_17 (fun x4 hf => ?_)
  refine pw_iconst (v := (0)) dX7_rank_20 (by decide) ?_
  refine q_iald hf dX7_rank_21 (fun x5 hf => ?_)
  refine q_icmp_eq (tgt := 27) hf dX7_rank_22 (by decide) (fun hf _ => ?_) (fun hf _ => ?_)
  · refine pw_iconst (v := (0)) dX7_rank_27 (by decide) ?_
    refine pw_istore_n dX7_rank_28 (by decide) rfl ?_
    dsimp only [lset, lset2, clr]
    exact pw_lo (lle_s rfl (lle_s rfl (lle_s rfl lle_0))) (w_X7_rank_29 4096 _ _ _ _ hf)
  · refine pw_iconst (v := (-1)) dX7_rank_25 (by decide) ?_
    exact pw_iret (x := (-1 : Int32)) rfl rfl dX7_rank_26 (ret_iw hf)
/-! X7_behind -/
abbrev m_X7_behind : MD := (cX7_behind, RX7, "behind", wsX7_behind, 2, (some .int))
theorem w9_X7_behind_X7 : ∀ w ∈ u_ws RX7 TX7 31, w ∈ wsX7_behind := by decide +kernel
theorem hd9_X7_behind : yX7_behind.cls = RX7 ∧ yX7_behind.cls ≠ "java/lang/invoke/MethodHandle" ∧ yX7_behind.cls ≠ "java/lang/invoke/VarHandle" ∧ (parseMethodDescriptor yX7_behind.desc).map (fun d => d.parameters.length) = some 0 := by decide +kernel
def f_X7_behind_22 : Nat → Nat → Int32 → Hp → Option (Int32 × Hp)
  | 0, _, _, _ => none
  | n + 1, v0, v1, h => (gI h v0 7 28).bind fun x1 => if x1 ≤ v1 then (if oK h v0 7 = true then (f_X7_ranked h v0).bind fun x2 => some ((x2.1, x2.2)) else none) else ((gR h v0 7 22).bind fun x3 => (gR h v0 7 27).bind fun x4 => (gI h v0 7 28).bind fun x5 => (aI h 0 x4 ((x5 - (1 : Int32)) - v1)).bind fun x6 => (sI h 0 x3 v1 x6).bind fun h7 => f_X7_behind_22 n v0 (v1 + (1)) h7)
set_option maxHeartbeats 4000000 in
set_option maxRecDepth 100000 in
theorem w_X7_behind_22 {g : GT} {l : Launch} {r : (Int32 × Hp)} : ∀ (n : Nat) (v0 : Nat) (v1 : Int32) (h : Hp), f_X7_behind_22 n v0 v1 h = some r → PW g l m_X7_behind 43 0 0 22 [some (.ref v0), some (.int v1)] [] h (fun r9 h9 => r9 = some (.int r.1) ∧ h9 = r.2) := by
  intro n
  induction n with
  | zero => intro v0 v1 h hf; cases hf
  | succ n ih =>
    intro v0 v1 h hf
    rw [f_X7_behind_22] at hf
    refine pw_iload_n dX7_behind_22 rfl ?_
    refine pw_aload_n dX7_behind_23 rfl ?_
    refine q_gI hf rfl (by decide) w9_X7_behind_X7 (by decide +kernel) dX7_behind_24 (fun x1 hf => ?_)
    refine q_icmp_ge (tgt := 55) hf dX7_behind_27 (by decide) (fun hf _ => ?_) (fun hf _ => ?_)
    · refine pw_aload_n dX7_behind_55 rfl ?_
      refine q_callV_iw (kc2 := 0) (ks2 := 0) (as := []) (rest := []) hf (fun x9 e9 => t_X7_ranked e9) gX7_behind_X7_ranked rfl hd9_X7_ranked rfl rfl ⟨(by decide), by decide⟩ ⟨rfl, rfl⟩ (Nat.le_of_ble_eq_true rfl) dX7_behind_56 rfl (fun x2 hf => ?_)
      exact pw_iret (x := x2.1) rfl rfl dX7_behind_59 (ret_iw hf)
    · refine pw_aload_n dX7_behind_30 rfl ?_
      refine q_gR hf rfl (by decide) w9_X7_behind_X7 (by decide +kernel) dX7_behind_31 (fun x3 hf => ?_)
      refine pw_iload_n dX7_behind_34 rfl ?_
      refine pw_aload_n dX7_behind_35 rfl ?_
      refine q_gR hf rfl (by decide) w9_X7_behind_X7 (by decide +kernel) dX7_behind_36 (fun x4 hf => ?_)
      refine pw_aload_n dX7_behind_39 rfl ?_
      refine q_gI hf rfl (by decide) w9_X7_behind_X7 (by decide +kernel) dX7_behind_40 (fun x5 hf => ?_)
      refine pw_iconst (v := (1)) dX7_behind_43 (by decide) ?_
      refine pw_isub dX7_behind_44 ?_
      refine pw_iload_n dX7_behind_45 rfl ?_
      refine pw_isub dX7_behind_46 ?_
      refine q_iald hf dX7_behind_47 (fun x6 hf => ?_)
      refine q_iast hf dX7_behind_48 (fun h7 hf => ?_)
      refine pw_iinc (v := v1 + (1)) dX7_behind_49 rfl rfl (by decide) rfl ?_
      dsimp only [lset, lset2, clr]
      refine pw_goto (tgt := 22) dX7_behind_52 (by decide) ?_
      exact pw_lo (lle_s rfl (lle_s rfl lle_0)) (ih _ _ _ hf)
def f_X7_behind (h : Hp) (a0 : Nat) : Option (Int32 × Hp) := (pV h a0 7 0 (.int (0 : Int32))).bind fun h1 => (gI h1 a0 7 28).bind fun x2 => (gR h1 a0 7 11).bind fun x3 => (aI h1 0 x3 (0 : Int32)).bind fun x4 => if x2 = x4 then (f_X7_behind_22 4096 a0 (0 : Int32) h1) else (some (((-1 : Int32), h1)))
set_option maxHeartbeats 4000000 in
set_option maxRecDepth 100000 in
theorem t_X7_behind {g : GT} {l : Launch} {h : Hp} {a0 : Nat} {r : (Int32 × Hp)} (hf : f_X7_behind h a0 = some r) : PM g l 43 0 0 yX7_behind wsX7_behind [.ref a0] h (fun r9 h9 => r9 = some (.int r.1) ∧ h9 = r.2) := by
  refine pm_of (M := m_X7_behind) (by decide) rfl rfl rfl (Nat.le_of_ble_eq_true rfl) (lo := [some (.ref a0), none]) rfl ?_
  rw [f_X7_behind] at hf
  refine pw_aload_n dX7_behind_0 rfl ?_
  refine pw_iconst (v := (0)) dX7_behind_1 (by decide) ?_
  refine q_pV (ty := .int) hf tyX7 tyX7_ok nmX7 rfl (by decide) w9_X7_behind_X7 (by decide +kernel) rfl (by decide +kernel) rfl rfl dX7_behind_2 (fun h1 hf => ?_)
  refine pw_aload_n dX7_behind_5 rfl ?_
  refine q_gI hf rfl (by decide) w9_X7_behind_X7 (by decide +kernel) dX7_behind_6 (fun x2 hf => ?_)
  refine pw_aload_n dX7_behind_9 rfl ?_
  refine q_gR hf rfl (by decide) w9_X7_behind_X7 (by decide +kernel) dX7_behind_10 (fun x3 hf => ?_)
  refine pw_iconst (v := (0)) dX7_behind_13 (by decide) ?_
  refine q_iald hf dX7_behind_14 (fun x4 hf => ?_)
  refine q_icmp_eq (tgt := 20) hf dX7_behind_15 (by decide) (fun hf _ => ?_) (fun hf _ => ?_)
  · refine pw_iconst (v := (0)) dX7_behind_20 (by decide) ?_
    refine pw_istore_n dX7_behind_21 (by decide) rfl ?_
    dsimp only [lset, lset2, clr]
    exact pw_lo (lle_s rfl (lle_s rfl lle_0)) (w_X7_behind_22 4096 _ _ _ hf)
  · refine pw_iconst (v := (-1)) dX7_behind_18 (by decide) ?_
    exact pw_iret (x := (-1 : Int32)) rfl rfl dX7_behind_19 (ret_iw hf)
/-! X7_standing -/
abbrev m_X7_standing : MD := (cX7_standing, RX7, "standing", wsX7_standing, 3, (some .int))
theorem w9_X7_standing_X7 : ∀ w ∈ u_ws RX7 TX7 31, w ∈ wsX7_standing := by decide +kernel
theorem hd9_X7_standing : yX7_standing.cls = RX7 ∧ yX7_standing.cls ≠ "java/lang/invoke/MethodHandle" ∧ yX7_standing.cls ≠ "java/lang/invoke/VarHandle" ∧ (parseMethodDescriptor yX7_standing.desc).map (fun d => d.parameters.length) = some 2 := by decide +kernel
def f_X7_standing (h : Hp) (a0 : Nat) (a1 : Int32) (a2 : Int32) : Option (Int32 × Hp) := (pV h a0 7 0 (.int (0 : Int32))).bind fun h1 => (gR h1 a0 7 11).bind fun x2 => (f_X7_isTold h1 x2 a1).bind fun x3 => if x3 = 0 then (some (((-1 : Int32), h1))) else ((gR h1 a0 7 11).bind fun x4 => (aI h1 0 x4 (0 : Int32)).bind fun x5 => (f_X7_isIn h1 a2 (1 : Int32) x5).bind fun x6 => if x6 = 0 then (some (((-1 : Int32), h1))) else ((gR h1 a0 7 11).bind fun x7 => if oK h1 a0 7 = true then (f_X7_all h1 a0 x7 (-1 : Int32)).bind fun x8 => (gR x8.2 a0 7 23).bind fun x9 => (aI x8.2 0 x9 ((((20 : Int32) * a1) + a2) - (1 : Int32))).bind fun x10 => some ((x10, x8.2)) else none))
set_option maxHeartbeats 4000000 in
set_option maxRecDepth 100000 in
theorem t_X7_standing {g : GT} {l : Launch} {h : Hp} {a0 : Nat} {a1 : Int32} {a2 : Int32} {r : (Int32 × Hp)} (hf : f_X7_standing h a0 a1 a2 = some r) : PM g l 42 0 0 yX7_standing wsX7_standing [.ref a0, .int a1, .int a2] h (fun r9 h9 => r9 = some (.int r.1) ∧ h9 = r.2) := by
  refine pm_of (M := m_X7_standing) (by decide) rfl rfl rfl (Nat.le_of_ble_eq_true rfl) (lo := [some (.ref a0), some (.int a1), some (.int a2)]) rfl ?_
  rw [f_X7_standing] at hf
  refine pw_aload_n dX7_standing_0 rfl ?_
  refine pw_iconst (v := (0)) dX7_standing_1 (by decide) ?_
  refine q_pV (ty := .int) hf tyX7 tyX7_ok nmX7 rfl (by decide) w9_X7_standing_X7 (by decide +kernel) rfl (by decide +kernel) rfl rfl dX7_standing_2 (fun h1 hf => ?_)
  refine pw_aload_n dX7_standing_5 rfl ?_
  refine q_gR hf rfl (by decide) w9_X7_standing_X7 (by decide +kernel) dX7_standing_6 (fun x2 hf => ?_)
  refine pw_iload_n dX7_standing_9 rfl ?_
  refine q_callS_i (kc2 := 0) (ks2 := 0) (as := [.ref x2, .int a1]) (rest := []) hf (fun x9 e9 => t_X7_isTold e9) gX7_standing_X7_isTold rfl hd9_X7_isTold rfl ⟨(by decide), by decide⟩ ⟨rfl, rfl⟩ (Nat.le_of_ble_eq_true rfl) dX7_standing_10 rfl (fun x3 hf => ?_)
  refine q_if_eq (tgt := 30) hf dX7_standing_13 (by decide) (fun hf _ => ?_) (fun hf _ => ?_)
  · refine pw_iconst (v := (-1)) dX7_standing_30 (by decide) ?_
    exact pw_iret (x := (-1 : Int32)) rfl rfl dX7_standing_31 (ret_iw hf)
  · refine pw_iload_n dX7_standing_16 rfl ?_
    refine pw_iconst (v := (1)) dX7_standing_17 (by decide) ?_
    refine pw_aload_n dX7_standing_18 rfl ?_
    refine q_gR hf rfl (by decide) w9_X7_standing_X7 (by decide +kernel) dX7_standing_19 (fun x4 hf => ?_)
    refine pw_iconst (v := (0)) dX7_standing_22 (by decide) ?_
    refine q_iald hf dX7_standing_23 (fun x5 hf => ?_)
    refine q_callS_i (kc2 := 0) (ks2 := 0) (as := [.int a2, .int (1 : Int32), .int x5]) (rest := []) hf (fun x9 e9 => t_X7_isIn e9) gX7_standing_X7_isIn rfl hd9_X7_isIn rfl ⟨(by decide), by decide⟩ ⟨rfl, rfl⟩ (Nat.le_of_ble_eq_true rfl) dX7_standing_24 rfl (fun x6 hf => ?_)
    refine q_if_ne (tgt := 32) hf dX7_standing_27 (by decide) (fun hf _ => ?_) (fun hf _ => ?_)
    · refine pw_aload_n dX7_standing_32 rfl ?_
      refine pw_aload_n dX7_standing_33 rfl ?_
      refine q_gR hf rfl (by decide) w9_X7_standing_X7 (by decide +kernel) dX7_standing_34 (fun x7 hf => ?_)
      refine pw_iconst (v := (-1)) dX7_standing_37 (by decide) ?_
      refine q_callV_iw (kc2 := 0) (ks2 := 0) (as := [.ref x7, .int (-1 : Int32)]) (rest := []) hf (fun x9 e9 => t_X7_all e9) gX7_standing_X7_all rfl hd9_X7_all rfl rfl ⟨(by decide), by decide⟩ ⟨rfl, rfl⟩ (Nat.le_of_ble_eq_true rfl) dX7_standing_38 rfl (fun x8 hf => ?_)
      refine pw_pop dX7_standing_41 rfl ?_
      refine pw_aload_n dX7_standing_42 rfl ?_
      refine q_gR hf rfl (by decide) w9_X7_standing_X7 (by decide +kernel) dX7_standing_43 (fun x9 hf => ?_)
      refine pw_bipush (v := (20)) dX7_standing_46 (by decide) ?_
      refine pw_iload_n dX7_standing_48 rfl ?_
      refine pw_imul dX7_standing_49 ?_
      refine pw_iload_n dX7_standing_50 rfl ?_
      refine pw_iadd dX7_standing_51 ?_
      refine pw_iconst (v := (1)) dX7_standing_52 (by decide) ?_
      refine pw_isub dX7_standing_53 ?_
      refine q_iald hf dX7_standing_54 (fun x10 hf => ?_)
      exact pw_iret (x := x10) rfl rfl dX7_standing_55 (ret_iw hf)
    · refine pw_iconst (v := (-1)) dX7_standing_30 (by decide) ?_
      exact pw_iret (x := (-1 : Int32)) rfl rfl dX7_standing_31 (ret_iw hf)
/-! X7_may -/
abbrev m_X7_may : MD := (cX7_may, RX7, "may", wsX7_may, 4, (some .int))
theorem w9_X7_may_X7 : ∀ w ∈ u_ws RX7 TX7 31, w ∈ wsX7_may := by decide +kernel
theorem hd9_X7_may : yX7_may.cls = RX7 ∧ yX7_may.cls ≠ "java/lang/invoke/MethodHandle" ∧ yX7_may.cls ≠ "java/lang/invoke/VarHandle" ∧ (parseMethodDescriptor yX7_may.desc).map (fun d => d.parameters.length) = some 1 := by decide +kernel
def f_X7_may_32 : Nat → Nat → Int32 → Int32 → Int32 → Hp → Option (Int32 × Hp)
  | 0, _, _, _, _, _ => none
  | n + 1, v0, v1, v2, v3, h => (gR h v0 7 11).bind fun x1 => (aI h 0 x1 (0 : Int32)).bind fun x2 => if x2 ≤ v3 then (some ((v2, h))) else ((gR h v0 7 23).bind fun x3 => (aI h 0 x3 (((20 : Int32) * v1) + v3)).bind fun x4 => if x4 ≤ 0 then (f_X7_may_32 n v0 v1 v2 (v3 + (1)) h) else (f_X7_may_32 n v0 v1 (v2 ||| ((1 : Int32) <<< (v3 &&& 31))) (v3 + (1)) h))
set_option maxHeartbeats 4000000 in
set_option maxRecDepth 100000 in
theorem w_X7_may_32 {g : GT} {l : Launch} {r : (Int32 × Hp)} : ∀ (n : Nat) (v0 : Nat) (v1 : Int32) (v2 : Int32) (v3 : Int32) (h : Hp), f_X7_may_32 n v0 v1 v2 v3 h = some r → PW g l m_X7_may 42 0 0 32 [some (.ref v0), some (.int v1), some (.int v2), some (.int v3)] [] h (fun r9 h9 => r9 = some (.int r.1) ∧ h9 = r.2) := by
  intro n
  induction n with
  | zero => intro v0 v1 v2 v3 h hf; cases hf
  | succ n ih =>
    intro v0 v1 v2 v3 h hf
    rw [f_X7_may_32] at hf
    refine pw_iload_n dX7_may_32 rfl ?_
    refine pw_aload_n dX7_may_33 rfl ?_
    refine q_gR hf rfl (by decide) w9_X7_may_X7 (by decide +kernel) dX7_may_34 (fun x1 hf => ?_)
    refine pw_iconst (v := (0)) dX7_may_37 (by decide) ?_
    refine q_iald hf dX7_may_38 (fun x2 hf => ?_)
    refine q_icmp_ge (tgt := 68) hf dX7_may_39 (by decide) (fun hf _ => ?_) (fun hf _ => ?_)
    · refine pw_iload_n dX7_may_68 rfl ?_
      exact pw_iret (x := v2) rfl rfl dX7_may_69 (ret_iw hf)
    · refine pw_aload_n dX7_may_42 rfl ?_
      refine q_gR hf rfl (by decide) w9_X7_may_X7 (by decide +kernel) dX7_may_43 (fun x3 hf => ?_)
      refine pw_bipush (v := (20)) dX7_may_46 (by decide) ?_
      refine pw_iload_n dX7_may_48 rfl ?_
      refine pw_imul dX7_may_49 ?_
      refine pw_iload_n dX7_may_50 rfl ?_
      refine pw_iadd dX7_may_51 ?_
      refine q_iald hf dX7_may_52 (fun x4 hf => ?_)
      refine q_if_le (tgt := 62) hf dX7_may_53 (by decide) (fun hf _ => ?_) (fun hf _ => ?_)
      · refine pw_iinc (v := v3 + (1)) dX7_may_62 rfl rfl (by decide) rfl ?_
        dsimp only [lset, lset2, clr]
        refine pw_goto (tgt := 32) dX7_may_65 (by decide) ?_
        exact pw_lo (lle_s rfl (lle_s rfl (lle_s rfl (lle_s rfl lle_0)))) (ih _ _ _ _ _ hf)
      · refine pw_iload_n dX7_may_56 rfl ?_
        refine pw_iconst (v := (1)) dX7_may_57 (by decide) ?_
        refine pw_iload_n dX7_may_58 rfl ?_
        refine pw_ishl dX7_may_59 ?_
        refine pw_ior dX7_may_60 ?_
        refine pw_istore_n dX7_may_61 (by decide) rfl ?_
        dsimp only [lset, lset2, clr]
        refine pw_iinc (v := v3 + (1)) dX7_may_62 rfl rfl (by decide) rfl ?_
        dsimp only [lset, lset2, clr]
        refine pw_goto (tgt := 32) dX7_may_65 (by decide) ?_
        exact pw_lo (lle_s rfl (lle_s rfl (lle_s rfl (lle_s rfl lle_0)))) (ih _ _ _ _ _ hf)
def f_X7_may (h : Hp) (a0 : Nat) (a1 : Int32) : Option (Int32 × Hp) := (pV h a0 7 0 (.int (0 : Int32))).bind fun h1 => (gR h1 a0 7 11).bind fun x2 => (f_X7_isTold h1 x2 a1).bind fun x3 => if x3 = 0 then (some (((-1 : Int32), h1))) else ((gR h1 a0 7 11).bind fun x4 => if oK h1 a0 7 = true then (f_X7_all h1 a0 x4 (-1 : Int32)).bind fun x5 => f_X7_may_32 4096 a0 a1 (0 : Int32) (0 : Int32) x5.2 else none)
set_option maxHeartbeats 4000000 in
set_option maxRecDepth 100000 in
theorem t_X7_may {g : GT} {l : Launch} {h : Hp} {a0 : Nat} {a1 : Int32} {r : (Int32 × Hp)} (hf : f_X7_may h a0 a1 = some r) : PM g l 42 0 0 yX7_may wsX7_may [.ref a0, .int a1] h (fun r9 h9 => r9 = some (.int r.1) ∧ h9 = r.2) := by
  refine pm_of (M := m_X7_may) (by decide) rfl rfl rfl (Nat.le_of_ble_eq_true rfl) (lo := [some (.ref a0), some (.int a1), none, none]) rfl ?_
  rw [f_X7_may] at hf
  refine pw_aload_n dX7_may_0 rfl ?_
  refine pw_iconst (v := (0)) dX7_may_1 (by decide) ?_
  refine q_pV (ty := .int) hf tyX7 tyX7_ok nmX7 rfl (by decide) w9_X7_may_X7 (by decide +kernel) rfl (by decide +kernel) rfl rfl dX7_may_2 (fun h1 hf => ?_)
  refine pw_aload_n dX7_may_5 rfl ?_
  refine q_gR hf rfl (by decide) w9_X7_may_X7 (by decide +kernel) dX7_may_6 (fun x2 hf => ?_)
  refine pw_iload_n dX7_may_9 rfl ?_
  refine q_callS_i (kc2 := 0) (ks2 := 0) (as := [.ref x2, .int a1]) (rest := []) hf (fun x9 e9 => t_X7_isTold e9) gX7_may_X7_isTold rfl hd9_X7_isTold rfl ⟨(by decide), by decide⟩ ⟨rfl, rfl⟩ (Nat.le_of_ble_eq_true rfl) dX7_may_10 rfl (fun x3 hf => ?_)
  refine q_if_ne (tgt := 18) hf dX7_may_13 (by decide) (fun hf _ => ?_) (fun hf _ => ?_)
  · refine pw_aload_n dX7_may_18 rfl ?_
    refine pw_aload_n dX7_may_19 rfl ?_
    refine q_gR hf rfl (by decide) w9_X7_may_X7 (by decide +kernel) dX7_may_20 (fun x4 hf => ?_)
    refine pw_iconst (v := (-1)) dX7_may_23 (by decide) ?_
    refine q_callV_iw (kc2 := 0) (ks2 := 0) (as := [.ref x4, .int (-1 : Int32)]) (rest := []) hf (fun x9 e9 => t_X7_all e9) gX7_may_X7_all rfl hd9_X7_all rfl rfl ⟨(by decide), by decide⟩ ⟨rfl, rfl⟩ (Nat.le_of_ble_eq_true rfl) dX7_may_24 rfl (fun x5 hf => ?_)
    refine pw_pop dX7_may_27 rfl ?_
    refine pw_iconst (v := (0)) dX7_may_28 (by decide) ?_
    refine pw_istore_n dX7_may_29 (by decide) rfl ?_
    dsimp only [lset, lset2, clr]
    refine pw_iconst (v := (0)) dX7_may_30 (by decide) ?_
    refine pw_istore_n dX7_may_31 (by decide) rfl ?_
    dsimp only [lset, lset2, clr]
    exact pw_lo (lle_s rfl (lle_s rfl (lle_s rfl (lle_s rfl lle_0)))) (w_X7_may_32 4096 _ _ _ _ _ hf)
  · refine pw_iconst (v := (-1)) dX7_may_16 (by decide) ?_
    exact pw_iret (x := (-1 : Int32)) rfl rfl dX7_may_17 (ret_iw hf)
/-! X7_sure -/
abbrev m_X7_sure : MD := (cX7_sure, RX7, "sure", wsX7_sure, 5, (some .int))
theorem w9_X7_sure_X7 : ∀ w ∈ u_ws RX7 TX7 31, w ∈ wsX7_sure := by decide +kernel
theorem hd9_X7_sure : yX7_sure.cls = RX7 ∧ yX7_sure.cls ≠ "java/lang/invoke/MethodHandle" ∧ yX7_sure.cls ≠ "java/lang/invoke/VarHandle" ∧ (parseMethodDescriptor yX7_sure.desc).map (fun d => d.parameters.length) = some 0 := by decide +kernel
def f_X7_sure_28 (k19 : Nat → Int32 → Int32 → Int32 → Hp → Option (Int32 × Hp)) : Nat → Nat → Int32 → Int32 → Int32 → Int32 → Hp → Option (Int32 × Hp)
  | 0, _, _, _, _, _, _ => none
  | n + 1, v0, v1, v2, v3, v4, h => (gR h v0 7 11).bind fun x1 => (aI h 0 x1 (0 : Int32)).bind fun x2 => if x2 ≤ v4 then (k19 v0 v1 v2 (v3 + (1)) h) else (if v1 ≤ 0 then (f_X7_sure_28 k19 n v0 v1 v2 v3 (v4 + (1)) h) else ((gR h v0 7 23).bind fun x3 => (aI h 0 x3 (((20 : Int32) * v3) + v4)).bind fun x4 => if x4 = v1 then (f_X7_sure_28 k19 n v0 v1 (v2 ||| ((1 : Int32) <<< ((v3 - (1 : Int32)) &&& 31))) v3 (v4 + (1)) h) else (f_X7_sure_28 k19 n v0 v1 v2 v3 (v4 + (1)) h)))
set_option maxHeartbeats 4000000 in
set_option maxRecDepth 100000 in
theorem w_X7_sure_28 {g : GT} {l : Launch} {r : (Int32 × Hp)} {k19} (hk19 : ∀ v0 v1 v2 v3 h, k19 v0 v1 v2 v3 h = some r → PW g l m_X7_sure 42 0 0 19 [some (.ref v0), some (.int v1), some (.int v2), some (.int v3), none] [] h (fun r9 h9 => r9 = some (.int r.1) ∧ h9 = r.2)) : ∀ (n : Nat) (v0 : Nat) (v1 : Int32) (v2 : Int32) (v3 : Int32) (v4 : Int32) (h : Hp), f_X7_sure_28 k19 n v0 v1 v2 v3 v4 h = some r → PW g l m_X7_sure 42 0 0 28 [some (.ref v0), some (.int v1), some (.int v2), some (.int v3), some (.int v4)] [] h (fun r9 h9 => r9 = some (.int r.1) ∧ h9 = r.2) := by
  intro n
  induction n with
  | zero => intro v0 v1 v2 v3 v4 h hf; cases hf
  | succ n ih =>
    intro v0 v1 v2 v3 v4 h hf
    rw [f_X7_sure_28] at hf
    refine pw_iload dX7_sure_28 rfl ?_
    refine pw_aload_n dX7_sure_30 rfl ?_
    refine q_gR hf rfl (by decide) w9_X7_sure_X7 (by decide +kernel) dX7_sure_31 (fun x1 hf => ?_)
    refine pw_iconst (v := (0)) dX7_sure_34 (by decide) ?_
    refine q_iald hf dX7_sure_35 (fun x2 hf => ?_)
    refine q_icmp_ge (tgt := 73) hf dX7_sure_36 (by decide) (fun hf _ => ?_) (fun hf _ => ?_)
    · refine pw_iinc (v := v3 + (1)) dX7_sure_73 rfl rfl (by decide) rfl ?_
      dsimp only [lset, lset2, clr]
      refine pw_goto (tgt := 19) dX7_sure_76 (by decide) ?_
      exact pw_lo (lle_s rfl (lle_s rfl (lle_s rfl (lle_s rfl (lle_n lle_0))))) (hk19 _ _ _ _ _ hf)
    · refine pw_iload_n dX7_sure_39 rfl ?_
      refine q_if_le (tgt := 67) hf dX7_sure_40 (by decide) (fun hf _ => ?_) (fun hf _ => ?_)
      · refine pw_iinc (v := v4 + (1)) dX7_sure_67 rfl rfl (by decide) rfl ?_
        dsimp only [lset, lset2, clr]
        refine pw_goto (tgt := 28) dX7_sure_70 (by decide) ?_
        exact pw_lo (lle_s rfl (lle_s rfl (lle_s rfl (lle_s rfl (lle_s rfl lle_0))))) (ih _ _ _ _ _ _ hf)
      · refine pw_aload_n dX7_sure_43 rfl ?_
        refine q_gR hf rfl (by decide) w9_X7_sure_X7 (by decide +kernel) dX7_sure_44 (fun x3 hf => ?_)
        refine pw_bipush (v := (20)) dX7_sure_47 (by decide) ?_
        refine pw_iload_n dX7_sure_49 rfl ?_
        refine pw_imul dX7_sure_50 ?_
        refine pw_iload dX7_sure_51 rfl ?_
        refine pw_iadd dX7_sure_53 ?_
        refine q_iald hf dX7_sure_54 (fun x4 hf => ?_)
        refine pw_iload_n dX7_sure_55 rfl ?_
        refine q_icmp_ne (tgt := 67) hf dX7_sure_56 (by decide) (fun hf _ => ?_) (fun hf _ => ?_)
        · refine pw_iinc (v := v4 + (1)) dX7_sure_67 rfl rfl (by decide) rfl ?_
          dsimp only [lset, lset2, clr]
          refine pw_goto (tgt := 28) dX7_sure_70 (by decide) ?_
          exact pw_lo (lle_s rfl (lle_s rfl (lle_s rfl (lle_s rfl (lle_s rfl lle_0))))) (ih _ _ _ _ _ _ hf)
        · refine pw_iload_n dX7_sure_59 rfl ?_
          refine pw_iconst (v := (1)) dX7_sure_60 (by decide) ?_
          refine pw_iload_n dX7_sure_61 rfl ?_
          refine pw_iconst (v := (1)) dX7_sure_62 (by decide) ?_
          refine pw_isub dX7_sure_63 ?_
          refine pw_ishl dX7_sure_64 ?_
          refine pw_ior dX7_sure_65 ?_
          refine pw_istore_n dX7_sure_66 (by decide) rfl ?_
          dsimp only [lset, lset2, clr]
          refine pw_iinc (v := v4 + (1)) dX7_sure_67 rfl rfl (by decide) rfl ?_
          dsimp only [lset, lset2, clr]
          refine pw_goto (tgt := 28) dX7_sure_70 (by decide) ?_
          exact pw_lo (lle_s rfl (lle_s rfl (lle_s rfl (lle_s rfl (lle_s rfl lle_0))))) (ih _ _ _ _ _ _ hf)
def f_X7_sure_19 : Nat → Nat → Int32 → Int32 → Int32 → Hp → Option (Int32 × Hp)
  | 0, _, _, _, _, _ => none
  | n + 1, v0, v1, v2, v3, h => if (15 : Int32) < v3 then (some ((v2, h))) else (f_X7_sure_28 (f_X7_sure_19 n) 4096 v0 v1 v2 v3 (0 : Int32) h)
set_option maxHeartbeats 4000000 in
set_option maxRecDepth 100000 in
theorem w_X7_sure_19 {g : GT} {l : Launch} {r : (Int32 × Hp)} : ∀ (n : Nat) (v0 : Nat) (v1 : Int32) (v2 : Int32) (v3 : Int32) (h : Hp), f_X7_sure_19 n v0 v1 v2 v3 h = some r → PW g l m_X7_sure 42 0 0 19 [some (.ref v0), some (.int v1), some (.int v2), some (.int v3), none] [] h (fun r9 h9 => r9 = some (.int r.1) ∧ h9 = r.2) := by
  intro n
  induction n with
  | zero => intro v0 v1 v2 v3 h hf; cases hf
  | succ n ih =>
    intro v0 v1 v2 v3 h hf
    rw [f_X7_sure_19] at hf
    refine pw_iload_n dX7_sure_19 rfl ?_
    refine pw_bipush (v := (15)) dX7_sure_20 (by decide) ?_
    refine q_icmp_gt (tgt := 79) hf dX7_sure_22 (by decide) (fun hf _ => ?_) (fun hf _ => ?_)
    · refine pw_iload_n dX7_sure_79 rfl ?_
      exact pw_iret (x := v2) rfl rfl dX7_sure_80 (ret_iw hf)
    · refine pw_iconst (v := (0)) dX7_sure_25 (by decide) ?_
      refine pw_istore dX7_sure_26 (by decide) rfl ?_
      dsimp only [lset, lset2, clr]
      exact pw_lo (lle_s rfl (lle_s rfl (lle_s rfl (lle_s rfl (lle_s rfl lle_0))))) (w_X7_sure_28 ih 4096 _ _ _ _ _ _ hf)
def f_X7_sure (h : Hp) (a0 : Nat) : Option (Int32 × Hp) := (pV h a0 7 0 (.int (0 : Int32))).bind fun h1 => (gR h1 a0 7 11).bind fun x2 => if oK h1 a0 7 = true then (f_X7_all h1 a0 x2 (-1 : Int32)).bind fun x3 => f_X7_sure_19 4096 a0 x3.1 (0 : Int32) (1 : Int32) x3.2 else none
set_option maxHeartbeats 4000000 in
set_option maxRecDepth 100000 in
theorem t_X7_sure {g : GT} {l : Launch} {h : Hp} {a0 : Nat} {r : (Int32 × Hp)} (hf : f_X7_sure h a0 = some r) : PM g l 42 0 0 yX7_sure wsX7_sure [.ref a0] h (fun r9 h9 => r9 = some (.int r.1) ∧ h9 = r.2) := by
  refine pm_of (M := m_X7_sure) (by decide) rfl rfl rfl (Nat.le_of_ble_eq_true rfl) (lo := [some (.ref a0), none, none, none, none]) rfl ?_
  rw [f_X7_sure] at hf
  refine pw_aload_n dX7_sure_0 rfl ?_
  refine pw_iconst (v := (0)) dX7_sure_1 (by decide) ?_
  refine q_pV (ty := .int) hf tyX7 tyX7_ok nmX7 rfl (by decide) w9_X7_sure_X7 (by decide +kernel) rfl (by decide +kernel) rfl rfl dX7_sure_2 (fun h1 hf => ?_)
  refine pw_aload_n dX7_sure_5 rfl ?_
  refine pw_aload_n dX7_sure_6 rfl ?_
  refine q_gR hf rfl (by decide) w9_X7_sure_X7 (by decide +kernel) dX7_sure_7 (fun x2 hf => ?_)
  refine pw_iconst (v := (-1)) dX7_sure_10 (by decide) ?_
  refine q_callV_iw (kc2 := 0) (ks2 := 0) (as := [.ref x2, .int (-1 : Int32)]) (rest := []) hf (fun x9 e9 => t_X7_all e9) gX7_sure_X7_all rfl hd9_X7_all rfl rfl ⟨(by decide), by decide⟩ ⟨rfl, rfl⟩ (Nat.le_of_ble_eq_true rfl) dX7_sure_11 rfl (fun x3 hf => ?_)
  refine pw_istore_n dX7_sure_14 (by decide) rfl ?_
  dsimp only [lset, lset2, clr]
  refine pw_iconst (v := (0)) dX7_sure_15 (by decide) ?_
  refine pw_istore_n dX7_sure_16 (by decide) rfl ?_
  dsimp only [lset, lset2, clr]
  refine pw_iconst (v := (1)) dX7_sure_17 (by decide) ?_
  refine pw_istore_n dX7_sure_18 (by decide) rfl ?_
  dsimp only [lset, lset2, clr]
  exact pw_lo (lle_s rfl (lle_s rfl (lle_s rfl (lle_s rfl (lle_n lle_0))))) (w_X7_sure_19 4096 _ _ _ _ _ hf)
/-! X7_extended -/
abbrev m_X7_extended : MD := (cX7_extended, RX7, "extended", wsX7_extended, 3, (some .int))
theorem w9_X7_extended_X7 : ∀ w ∈ u_ws RX7 TX7 31, w ∈ wsX7_extended := by decide +kernel
theorem hd9_X7_extended : yX7_extended.cls = RX7 ∧ yX7_extended.cls ≠ "java/lang/invoke/MethodHandle" ∧ yX7_extended.cls ≠ "java/lang/invoke/VarHandle" ∧ (parseMethodDescriptor yX7_extended.desc).map (fun d => d.parameters.length) = some 2 := by decide +kernel
def f_X7_extended (h : Hp) (a0 : Nat) (a1 : Int32) (a2 : Int32) : Option (Int32 × Hp) := (pV h a0 7 0 (.int (0 : Int32))).bind fun h1 => (f_X7_isIn h1 a1 (1 : Int32) (7 : Int32)).bind fun x2 => if x2 = 0 then (some (((-1 : Int32), h1))) else ((f_X7_isIn h1 a2 (1 : Int32) (((2 : Int32) * a1) + (1 : Int32))).bind fun x3 => if x3 = 0 then (some (((-1 : Int32), h1))) else ((gR h1 a0 7 17).bind fun x4 => (f_X7_laysKind h1 x4 (3 : Int32) a1).bind fun h5 => (gR h5 a0 7 17).bind fun x6 => (sI h5 0 x6 (1 : Int32) ((1 : Int32) <<< ((a2 - (1 : Int32)) &&& 31))).bind fun h7 => (gR h7 a0 7 17).bind fun x8 => if oK h7 a0 7 = true then (f_X7_all h7 a0 x8 (-1 : Int32)).bind fun x9 => some ((x9.1, x9.2)) else none))
set_option maxHeartbeats 4000000 in
set_option maxRecDepth 100000 in
theorem t_X7_extended {g : GT} {l : Launch} {h : Hp} {a0 : Nat} {a1 : Int32} {a2 : Int32} {r : (Int32 × Hp)} (hf : f_X7_extended h a0 a1 a2 = some r) : PM g l 42 0 0 yX7_extended wsX7_extended [.ref a0, .int a1, .int a2] h (fun r9 h9 => r9 = some (.int r.1) ∧ h9 = r.2) := by
  refine pm_of (M := m_X7_extended) (by decide) rfl rfl rfl (Nat.le_of_ble_eq_true rfl) (lo := [some (.ref a0), some (.int a1), some (.int a2)]) rfl ?_
  rw [f_X7_extended] at hf
  refine pw_aload_n dX7_extended_0 rfl ?_
  refine pw_iconst (v := (0)) dX7_extended_1 (by decide) ?_
  refine q_pV (ty := .int) hf tyX7 tyX7_ok nmX7 rfl (by decide) w9_X7_extended_X7 (by decide +kernel) rfl (by decide +kernel) rfl rfl dX7_extended_2 (fun h1 hf => ?_)
  refine pw_iload_n dX7_extended_5 rfl ?_
  refine pw_iconst (v := (1)) dX7_extended_6 (by decide) ?_
  refine pw_bipush (v := (7)) dX7_extended_7 (by decide) ?_
  refine q_callS_i (kc2 := 0) (ks2 := 0) (as := [.int a1, .int (1 : Int32), .int (7 : Int32)]) (rest := []) hf (fun x9 e9 => t_X7_isIn e9) gX7_extended_X7_isIn rfl hd9_X7_isIn rfl ⟨(by decide), by decide⟩ ⟨rfl, rfl⟩ (Nat.le_of_ble_eq_true rfl) dX7_extended_9 rfl (fun x2 hf => ?_)
  refine q_if_eq (tgt := 28) hf dX7_extended_12 (by decide) (fun hf _ => ?_) (fun hf _ => ?_)
  · refine pw_iconst (v := (-1)) dX7_extended_28 (by decide) ?_
    exact pw_iret (x := (-1 : Int32)) rfl rfl dX7_extended_29 (ret_iw hf)
  · refine pw_iload_n dX7_extended_15 rfl ?_
    refine pw_iconst (v := (1)) dX7_extended_16 (by decide) ?_
    refine pw_iconst (v := (2)) dX7_extended_17 (by decide) ?_
    refine pw_iload_n dX7_extended_18 rfl ?_
    refine pw_imul dX7_extended_19 ?_
    refine pw_iconst (v := (1)) dX7_extended_20 (by decide) ?_
    refine pw_iadd dX7_extended_21 ?_
    refine q_callS_i (kc2 := 0) (ks2 := 0) (as := [.int a2, .int (1 : Int32), .int (((2 : Int32) * a1) + (1 : Int32))]) (rest := []) hf (fun x9 e9 => t_X7_isIn e9) gX7_extended_X7_isIn rfl hd9_X7_isIn rfl ⟨(by decide), by decide⟩ ⟨rfl, rfl⟩ (Nat.le_of_ble_eq_true rfl) dX7_extended_22 rfl (fun x3 hf => ?_)
    refine q_if_ne (tgt := 30) hf dX7_extended_25 (by decide) (fun hf _ => ?_) (fun hf _ => ?_)
    · refine pw_aload_n dX7_extended_30 rfl ?_
      refine q_gR hf rfl (by decide) w9_X7_extended_X7 (by decide +kernel) dX7_extended_31 (fun x4 hf => ?_)
      refine pw_iconst (v := (3)) dX7_extended_34 (by decide) ?_
      refine pw_iload_n dX7_extended_35 rfl ?_
      refine q_callS_v (kc2 := 0) (ks2 := 0) (as := [.ref x4, .int (3 : Int32), .int a1]) (rest := []) hf (fun x9 e9 => t_X7_laysKind e9) gX7_extended_X7_laysKind rfl hd9_X7_laysKind rfl ⟨(by decide), by decide⟩ ⟨rfl, rfl⟩ (Nat.le_of_ble_eq_true rfl) dX7_extended_36 rfl (fun h5 hf => ?_)
      refine pw_aload_n dX7_extended_39 rfl ?_
      refine q_gR hf rfl (by decide) w9_X7_extended_X7 (by decide +kernel) dX7_extended_40 (fun x6 hf => ?_)
      refine pw_iconst (v := (1)) dX7_extended_43 (by decide) ?_
      refine pw_iconst (v := (1)) dX7_extended_44 (by decide) ?_
      refine pw_iload_n dX7_extended_45 rfl ?_
      refine pw_iconst (v := (1)) dX7_extended_46 (by decide) ?_
      refine pw_isub dX7_extended_47 ?_
      refine pw_ishl dX7_extended_48 ?_
      refine q_iast hf dX7_extended_49 (fun h7 hf => ?_)
      refine pw_aload_n dX7_extended_50 rfl ?_
      refine pw_aload_n dX7_extended_51 rfl ?_
      refine q_gR hf rfl (by decide) w9_X7_extended_X7 (by decide +kernel) dX7_extended_52 (fun x8 hf => ?_)
      refine pw_iconst (v := (-1)) dX7_extended_55 (by decide) ?_
      refine q_callV_iw (kc2 := 0) (ks2 := 0) (as := [.ref x8, .int (-1 : Int32)]) (rest := []) hf (fun x9 e9 => t_X7_all e9) gX7_extended_X7_all rfl hd9_X7_all rfl rfl ⟨(by decide), by decide⟩ ⟨rfl, rfl⟩ (Nat.le_of_ble_eq_true rfl) dX7_extended_56 rfl (fun x9 hf => ?_)
      exact pw_iret (x := x9.1) rfl rfl dX7_extended_59 (ret_iw hf)
    · refine pw_iconst (v := (-1)) dX7_extended_28 (by decide) ?_
      exact pw_iret (x := (-1 : Int32)) rfl rfl dX7_extended_29 (ret_iw hf)
