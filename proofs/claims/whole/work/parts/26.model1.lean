/-! X7_thrown -/
abbrev m_X7_thrown : MD := (cX7_thrown, RX7, "thrown", wsX7_thrown, 1, (some .int))
theorem w9_X7_thrown_X7 : ∀ w ∈ u_ws RX7 TX7 31, w ∈ wsX7_thrown := by decide +kernel
theorem hd9_X7_thrown : yX7_thrown.cls = RX7 ∧ yX7_thrown.cls ≠ "java/lang/invoke/MethodHandle" ∧ yX7_thrown.cls ≠ "java/lang/invoke/VarHandle" ∧ (parseMethodDescriptor yX7_thrown.desc).map (fun d => d.parameters.length) = some 0 := by decide +kernel
def f_X7_thrown (h : Hp) (a0 : Nat) : Option Int32 := (gI h a0 7 0).bind fun x1 => some (x1)
set_option maxHeartbeats 4000000 in
set_option maxRecDepth 100000 in
theorem t_X7_thrown {g : GT} {l : Launch} {h : Hp} {a0 : Nat} {r : Int32} (hf : f_X7_thrown h a0 = some r) : PM g l 1 0 0 yX7_thrown wsX7_thrown [.ref a0] h (fun r9 h9 => r9 = some (.int r) ∧ h9 = h) := by
  refine pm_of (M := m_X7_thrown) (by decide) rfl rfl rfl (Nat.le_of_ble_eq_true rfl) (lo := [some (.ref a0)]) rfl ?_
  rw [f_X7_thrown] at hf
  refine pw_aload_n dX7_thrown_0 rfl ?_
  refine q_gI hf rfl (by decide) w9_X7_thrown_X7 (by decide +kernel) dX7_thrown_1 (fun x1 hf => ?_)
  exact pw_iret (x := x1) rfl rfl dX7_thrown_4 ⟨congrArg (fun z => some (Value.int z)) (Option.some.inj hf), rfl⟩
/-! X7_refuse -/
abbrev m_X7_refuse : MD := (cX7_refuse, RX7, "refuse", wsX7_refuse, 1, (some .int))
theorem w9_X7_refuse_X7 : ∀ w ∈ u_ws RX7 TX7 31, w ∈ wsX7_refuse := by decide +kernel
theorem hd9_X7_refuse : yX7_refuse.cls = RX7 ∧ yX7_refuse.cls ≠ "java/lang/invoke/MethodHandle" ∧ yX7_refuse.cls ≠ "java/lang/invoke/VarHandle" ∧ (parseMethodDescriptor yX7_refuse.desc).map (fun d => d.parameters.length) = some 0 := by decide +kernel
def f_X7_refuse (h : Hp) (a0 : Nat) : Option (Int32 × Hp) := (pV h a0 7 0 (.int (1 : Int32))).bind fun h1 => some (((0 : Int32), h1))
set_option maxHeartbeats 4000000 in
set_option maxRecDepth 100000 in
theorem t_X7_refuse {g : GT} {l : Launch} {h : Hp} {a0 : Nat} {r : (Int32 × Hp)} (hf : f_X7_refuse h a0 = some r) : PM g l 1 0 0 yX7_refuse wsX7_refuse [.ref a0] h (fun r9 h9 => r9 = some (.int r.1) ∧ h9 = r.2) := by
  refine pm_of (M := m_X7_refuse) (by decide) rfl rfl rfl (Nat.le_of_ble_eq_true rfl) (lo := [some (.ref a0)]) rfl ?_
  rw [f_X7_refuse] at hf
  refine pw_aload_n dX7_refuse_0 rfl ?_
  refine pw_iconst (v := (1)) dX7_refuse_1 (by decide) ?_
  refine q_pV (ty := .int) hf tyX7 tyX7_ok nmX7 rfl (by decide) w9_X7_refuse_X7 (by decide +kernel) rfl (by decide +kernel) rfl rfl dX7_refuse_2 (fun h1 hf => ?_)
  refine pw_iconst (v := (0)) dX7_refuse_5 (by decide) ?_
  exact pw_iret (x := (0 : Int32)) rfl rfl dX7_refuse_6 (ret_iw hf)
/-! X7_isIn -/
abbrev m_X7_isIn : MD := (cX7_isIn, RX7, "isIn", wsX7_isIn, 3, (some .boolean))
theorem hd9_X7_isIn : yX7_isIn.cls ≠ "java/lang/invoke/MethodHandle" ∧ yX7_isIn.cls ≠ "java/lang/invoke/VarHandle" ∧ (parseMethodDescriptor yX7_isIn.desc).map (fun d => d.parameters.length) = some 3 := by decide +kernel
def f_X7_isIn (h : Hp) (a0 : Int32) (a1 : Int32) (a2 : Int32) : Option Int32 := if a0 < a1 then (some ((0 : Int32))) else (if a2 < a0 then (some ((0 : Int32))) else (some ((1 : Int32))))
set_option maxHeartbeats 4000000 in
set_option maxRecDepth 100000 in
theorem t_X7_isIn {g : GT} {l : Launch} {h : Hp} {a0 : Int32} {a1 : Int32} {a2 : Int32} {r : Int32} (hf : f_X7_isIn h a0 a1 a2 = some r) : PM g l 1 0 0 yX7_isIn wsX7_isIn [.int a0, .int a1, .int a2] h (fun r9 h9 => r9 = some (.int r) ∧ h9 = h) := by
  refine pm_of (M := m_X7_isIn) (by decide) rfl rfl rfl (Nat.le_of_ble_eq_true rfl) (lo := [some (.int a0), some (.int a1), some (.int a2)]) rfl ?_
  rw [f_X7_isIn] at hf
  refine pw_iload_n dX7_isIn_0 rfl ?_
  refine pw_iload_n dX7_isIn_1 rfl ?_
  refine q_icmp_lt (tgt := 14) hf dX7_isIn_2 (by decide) (fun hf _ => ?_) (fun hf _ => ?_)
  · refine pw_iconst (v := (0)) dX7_isIn_14 (by decide) ?_
    exact pw_iret (x := (0 : Int32)) rfl rfl dX7_isIn_15 ⟨congrArg (fun z => some (Value.int z)) (Option.some.inj hf), rfl⟩
  · refine pw_iload_n dX7_isIn_5 rfl ?_
    refine pw_iload_n dX7_isIn_6 rfl ?_
    refine q_icmp_gt (tgt := 14) hf dX7_isIn_7 (by decide) (fun hf _ => ?_) (fun hf _ => ?_)
    · refine pw_iconst (v := (0)) dX7_isIn_14 (by decide) ?_
      exact pw_iret (x := (0 : Int32)) rfl rfl dX7_isIn_15 ⟨congrArg (fun z => some (Value.int z)) (Option.some.inj hf), rfl⟩
    · refine pw_iconst (v := (1)) dX7_isIn_10 (by decide) ?_
      refine pw_goto (tgt := 15) dX7_isIn_11 (by decide) ?_
      exact pw_iret (x := (1 : Int32)) rfl rfl dX7_isIn_15 ⟨congrArg (fun z => some (Value.int z)) (Option.some.inj hf), rfl⟩
/-! X7_has -/
abbrev m_X7_has : MD := (cX7_has, RX7, "has", wsX7_has, 2, (some .boolean))
theorem hd9_X7_has : yX7_has.cls ≠ "java/lang/invoke/MethodHandle" ∧ yX7_has.cls ≠ "java/lang/invoke/VarHandle" ∧ (parseMethodDescriptor yX7_has.desc).map (fun d => d.parameters.length) = some 2 := by decide +kernel
def f_X7_has (h : Hp) (a0 : Int32) (a1 : Int32) : Option Int32 := if ((a0 >>> (a1 &&& 31)) &&& (1 : Int32)) = (1 : Int32) then (some ((1 : Int32))) else (some ((0 : Int32)))
set_option maxHeartbeats 4000000 in
set_option maxRecDepth 100000 in
theorem t_X7_has {g : GT} {l : Launch} {h : Hp} {a0 : Int32} {a1 : Int32} {r : Int32} (hf : f_X7_has h a0 a1 = some r) : PM g l 1 0 0 yX7_has wsX7_has [.int a0, .int a1] h (fun r9 h9 => r9 = some (.int r) ∧ h9 = h) := by
  refine pm_of (M := m_X7_has) (by decide) rfl rfl rfl (Nat.le_of_ble_eq_true rfl) (lo := [some (.int a0), some (.int a1)]) rfl ?_
  rw [f_X7_has] at hf
  refine pw_iload_n dX7_has_0 rfl ?_
  refine pw_iload_n dX7_has_1 rfl ?_
  refine pw_ishr dX7_has_2 ?_
  refine pw_iconst (v := (1)) dX7_has_3 (by decide) ?_
  refine pw_iand dX7_has_4 ?_
  refine pw_iconst (v := (1)) dX7_has_5 (by decide) ?_
  refine q_icmp_ne (tgt := 13) hf dX7_has_6 (by decide) (fun hf _ => ?_) (fun hf _ => ?_)
  · refine pw_iconst (v := (0)) dX7_has_13 (by decide) ?_
    exact pw_iret (x := (0 : Int32)) rfl rfl dX7_has_14 ⟨congrArg (fun z => some (Value.int z)) (Option.some.inj hf), rfl⟩
  · refine pw_iconst (v := (1)) dX7_has_9 (by decide) ?_
    refine pw_goto (tgt := 14) dX7_has_10 (by decide) ?_
    exact pw_iret (x := (1 : Int32)) rfl rfl dX7_has_14 ⟨congrArg (fun z => some (Value.int z)) (Option.some.inj hf), rfl⟩
/-! X7_bits -/
abbrev m_X7_bits : MD := (cX7_bits, RX7, "bits", wsX7_bits, 3, (some .int))
theorem hd9_X7_bits : yX7_bits.cls ≠ "java/lang/invoke/MethodHandle" ∧ yX7_bits.cls ≠ "java/lang/invoke/VarHandle" ∧ (parseMethodDescriptor yX7_bits.desc).map (fun d => d.parameters.length) = some 1 := by decide +kernel
def f_X7_bits_4 : Nat → Int32 → Int32 → Hp → Option Int32
  | 0, _, _, _ => none
  | n + 1, v1, v2, h => if v2 = 0 then (some (v1)) else (f_X7_bits_4 n (v1 + (1)) (v2 &&& (v2 - (1 : Int32))) h)
set_option maxHeartbeats 4000000 in
set_option maxRecDepth 100000 in
theorem w_X7_bits_4 {g : GT} {l : Launch} {r : Int32} : ∀ (n : Nat) (v1 : Int32) (v2 : Int32) (h : Hp), f_X7_bits_4 n v1 v2 h = some r → PW g l m_X7_bits 1 0 0 4 [none, some (.int v1), some (.int v2)] [] h (fun r9 h9 => r9 = some (.int r) ∧ h9 = h) := by
  intro n
  induction n with
  | zero => intro v1 v2 h hf; cases hf
  | succ n ih =>
    intro v1 v2 h hf
    rw [f_X7_bits_4] at hf
    refine pw_iload_n dX7_bits_4 rfl ?_
    refine q_if_eq (tgt := 20) hf dX7_bits_5 (by decide) (fun hf _ => ?_) (fun hf _ => ?_)
    · refine pw_iload_n dX7_bits_20 rfl ?_
      exact pw_iret (x := v1) rfl rfl dX7_bits_21 ⟨congrArg (fun z => some (Value.int z)) (Option.some.inj hf), rfl⟩
    · refine pw_iinc (v := v1 + (1)) dX7_bits_8 rfl rfl (by decide) rfl ?_
      dsimp only [lset, lset2, clr]
      refine pw_iload_n dX7_bits_11 rfl ?_
      refine pw_iload_n dX7_bits_12 rfl ?_
      refine pw_iconst (v := (1)) dX7_bits_13 (by decide) ?_
      refine pw_isub dX7_bits_14 ?_
      refine pw_iand dX7_bits_15 ?_
      refine pw_istore_n dX7_bits_16 (by decide) rfl ?_
      dsimp only [lset, lset2, clr]
      refine pw_goto (tgt := 4) dX7_bits_17 (by decide) ?_
      exact pw_lo (lle_n (lle_s rfl (lle_s rfl lle_0))) (ih _ _ _ hf)
def f_X7_bits (h : Hp) (a0 : Int32) : Option Int32 := f_X7_bits_4 4096 (0 : Int32) a0 h
set_option maxHeartbeats 4000000 in
set_option maxRecDepth 100000 in
theorem t_X7_bits {g : GT} {l : Launch} {h : Hp} {a0 : Int32} {r : Int32} (hf : f_X7_bits h a0 = some r) : PM g l 1 0 0 yX7_bits wsX7_bits [.int a0] h (fun r9 h9 => r9 = some (.int r) ∧ h9 = h) := by
  refine pm_of (M := m_X7_bits) (by decide) rfl rfl rfl (Nat.le_of_ble_eq_true rfl) (lo := [some (.int a0), none, none]) rfl ?_
  rw [f_X7_bits] at hf
  refine pw_iconst (v := (0)) dX7_bits_0 (by decide) ?_
  refine pw_istore_n dX7_bits_1 (by decide) rfl ?_
  dsimp only [lset, lset2, clr]
  refine pw_iload_n dX7_bits_2 rfl ?_
  refine pw_istore_n dX7_bits_3 (by decide) rfl ?_
  dsimp only [lset, lset2, clr]
  exact pw_lo (lle_n (lle_s rfl (lle_s rfl lle_0))) (w_X7_bits_4 4096 _ _ _ hf)
/-! X7_lay -/
abbrev m_X7_lay : MD := (cX7_lay, RX7, "lay", wsX7_lay, 3, none)
theorem w9_X7_lay_X7 : ∀ w ∈ u_ws RX7 TX7 31, w ∈ wsX7_lay := by decide +kernel
theorem hd9_X7_lay : yX7_lay.cls = RX7 ∧ yX7_lay.cls ≠ "java/lang/invoke/MethodHandle" ∧ yX7_lay.cls ≠ "java/lang/invoke/VarHandle" ∧ (parseMethodDescriptor yX7_lay.desc).map (fun d => d.parameters.length) = some 1 := by decide +kernel
def f_X7_lay_3 : Nat → Nat → Int32 → Int32 → Hp → Option Hp
  | 0, _, _, _, _ => none
  | n + 1, v0, v1, v2, h => if v2 < 0 then (some h) else ((gR h v0 7 1).bind fun x1 => (gI h v0 7 2).bind fun x2 => (sI h 0 x1 x2 ((ushr v1 v2) &&& (255 : Int32))).bind fun h3 => (gI h3 v0 7 2).bind fun x4 => (pV h3 v0 7 2 (.int (x4 + (1 : Int32)))).bind fun h5 => f_X7_lay_3 n v0 v1 (v2 + (-8)) h5)
set_option maxHeartbeats 4000000 in
set_option maxRecDepth 100000 in
theorem w_X7_lay_3 {g : GT} {l : Launch} {r : Hp} : ∀ (n : Nat) (v0 : Nat) (v1 : Int32) (v2 : Int32) (h : Hp), f_X7_lay_3 n v0 v1 v2 h = some r → PW g l m_X7_lay 1 0 0 3 [some (.ref v0), some (.int v1), some (.int v2)] [] h (fun r9 h9 => r9 = none ∧ h9 = r) := by
  intro n
  induction n with
  | zero => intro v0 v1 v2 h hf; cases hf
  | succ n ih =>
    intro v0 v1 v2 h hf
    rw [f_X7_lay_3] at hf
    refine pw_iload_n dX7_lay_3 rfl ?_
    refine q_if_lt (tgt := 39) hf dX7_lay_4 (by decide) (fun hf _ => ?_) (fun hf _ => ?_)
    · exact pw_vret rfl dX7_lay_39 ⟨rfl, Option.some.inj hf⟩
    · refine pw_aload_n dX7_lay_7 rfl ?_
      refine q_gR hf rfl (by decide) w9_X7_lay_X7 (by decide +kernel) dX7_lay_8 (fun x1 hf => ?_)
      refine pw_aload_n dX7_lay_11 rfl ?_
      refine q_gI hf rfl (by decide) w9_X7_lay_X7 (by decide +kernel) dX7_lay_12 (fun x2 hf => ?_)
      refine pw_iload_n dX7_lay_15 rfl ?_
      refine pw_iload_n dX7_lay_16 rfl ?_
      refine pw_iushr dX7_lay_17 ?_
      refine pw_sipush (v := (255)) dX7_lay_18 (by decide) ?_
      refine pw_iand dX7_lay_21 ?_
      refine q_iast hf dX7_lay_22 (fun h3 hf => ?_)
      refine pw_aload_n dX7_lay_23 rfl ?_
      refine pw_dup dX7_lay_24 rfl ?_
      refine q_gI hf rfl (by decide) w9_X7_lay_X7 (by decide +kernel) dX7_lay_25 (fun x4 hf => ?_)
      refine pw_iconst (v := (1)) dX7_lay_28 (by decide) ?_
      refine pw_iadd dX7_lay_29 ?_
      refine q_pV (ty := .int) hf tyX7 tyX7_ok nmX7 rfl (by decide) w9_X7_lay_X7 (by decide +kernel) rfl (by decide +kernel) rfl rfl dX7_lay_30 (fun h5 hf => ?_)
      refine pw_iinc (v := v2 + (-8)) dX7_lay_33 rfl rfl (by decide) rfl ?_
      dsimp only [lset, lset2, clr]
      refine pw_goto (tgt := 3) dX7_lay_36 (by decide) ?_
      exact pw_lo (lle_s rfl (lle_s rfl (lle_s rfl lle_0))) (ih _ _ _ _ hf)
def f_X7_lay (h : Hp) (a0 : Nat) (a1 : Int32) : Option Hp := f_X7_lay_3 4096 a0 a1 (24 : Int32) h
set_option maxHeartbeats 4000000 in
set_option maxRecDepth 100000 in
theorem t_X7_lay {g : GT} {l : Launch} {h : Hp} {a0 : Nat} {a1 : Int32} {r : Hp} (hf : f_X7_lay h a0 a1 = some r) : PM g l 1 0 0 yX7_lay wsX7_lay [.ref a0, .int a1] h (fun r9 h9 => r9 = none ∧ h9 = r) := by
  refine pm_of (M := m_X7_lay) (by decide) rfl rfl rfl (Nat.le_of_ble_eq_true rfl) (lo := [some (.ref a0), some (.int a1), none]) rfl ?_
  rw [f_X7_lay] at hf
  refine pw_bipush (v := (24)) dX7_lay_0 (by decide) ?_
  refine pw_istore_n dX7_lay_2 (by decide) rfl ?_
  dsimp only [lset, lset2, clr]
  exact pw_lo (lle_s rfl (lle_s rfl (lle_s rfl lle_0))) (w_X7_lay_3 4096 _ _ _ _ hf)
/-! X7_feed -/
abbrev m_X7_feed : MD := (cX7_feed, RX7, "feed", wsX7_feed, 6, (some .int))
theorem w9_X7_feed_X7 : ∀ w ∈ u_ws RX7 TX7 31, w ∈ wsX7_feed := by decide +kernel
theorem hd9_X7_feed : yX7_feed.cls = RX7 ∧ yX7_feed.cls ≠ "java/lang/invoke/MethodHandle" ∧ yX7_feed.cls ≠ "java/lang/invoke/VarHandle" ∧ (parseMethodDescriptor yX7_feed.desc).map (fun d => d.parameters.length) = some 5 := by decide +kernel
def f_X7_feed (h : Hp) (a0 : Nat) (a1 : Int32) (a2 : Int32) (a3 : Int32) (a4 : Int32) (a5 : Int32) : Option (Int32 × Hp) := (pV h a0 7 0 (.int (0 : Int32))).bind fun h1 => (gI h1 a0 7 2).bind fun x2 => if (x2 + (20 : Int32)) ≤ (340 : Int32) then (if oK h1 a0 7 = true then (f_X7_lay h1 a0 a1).bind fun h3 => if oK h3 a0 7 = true then (f_X7_lay h3 a0 a2).bind fun h4 => if oK h4 a0 7 = true then (f_X7_lay h4 a0 a3).bind fun h5 => if oK h5 a0 7 = true then (f_X7_lay h5 a0 a4).bind fun h6 => if oK h6 a0 7 = true then (f_X7_lay h6 a0 a5).bind fun h7 => (gI h7 a0 7 2).bind fun x8 => some ((x8, h7)) else none else none else none else none else none) else (some (((-1 : Int32), h1)))
set_option maxHeartbeats 4000000 in
set_option maxRecDepth 100000 in
theorem t_X7_feed {g : GT} {l : Launch} {h : Hp} {a0 : Nat} {a1 : Int32} {a2 : Int32} {a3 : Int32} {a4 : Int32} {a5 : Int32} {r : (Int32 × Hp)} (hf : f_X7_feed h a0 a1 a2 a3 a4 a5 = some r) : PM g l 2 0 0 yX7_feed wsX7_feed [.ref a0, .int a1, .int a2, .int a3, .int a4, .int a5] h (fun r9 h9 => r9 = some (.int r.1) ∧ h9 = r.2) := by
  refine pm_of (M := m_X7_feed) (by decide) rfl rfl rfl (Nat.le_of_ble_eq_true rfl) (lo := [some (.ref a0), some (.int a1), some (.int a2), some (.int a3), some (.int a4), some (.int a5)]) rfl ?_
  rw [f_X7_feed] at hf
  refine pw_aload_n dX7_feed_0 rfl ?_
  refine pw_iconst (v := (0)) dX7_feed_1 (by decide) ?_
  refine q_pV (ty := .int) hf tyX7 tyX7_ok nmX7 rfl (by decide) w9_X7_feed_X7 (by decide +kernel) rfl (by decide +kernel) rfl rfl dX7_feed_2 (fun h1 hf => ?_)
  refine pw_aload_n dX7_feed_5 rfl ?_
  refine q_gI hf rfl (by decide) w9_X7_feed_X7 (by decide +kernel) dX7_feed_6 (fun x2 hf => ?_)
  refine pw_bipush (v := (20)) dX7_feed_9 (by decide) ?_
  refine pw_iadd dX7_feed_11 ?_
  refine pw_sipush (v := (340)) dX7_feed_12 (by decide) ?_
  refine q_icmp_le (tgt := 20) hf dX7_feed_15 (by decide) (fun hf _ => ?_) (fun hf _ => ?_)
  · refine pw_aload_n dX7_feed_20 rfl ?_
    refine pw_iload_n dX7_feed_21 rfl ?_
    refine q_callV_v (kc2 := 0) (ks2 := 0) (as := [.int a1]) (rest := []) hf (fun x9 e9 => t_X7_lay e9) gX7_feed_X7_lay rfl hd9_X7_lay rfl rfl ⟨(by decide), by decide⟩ ⟨rfl, rfl⟩ (Nat.le_of_ble_eq_true rfl) dX7_feed_22 rfl (fun h3 hf => ?_)
    refine pw_aload_n dX7_feed_25 rfl ?_
    refine pw_iload_n dX7_feed_26 rfl ?_
    refine q_callV_v (kc2 := 0) (ks2 := 0) (as := [.int a2]) (rest := []) hf (fun x9 e9 => t_X7_lay e9) gX7_feed_X7_lay rfl hd9_X7_lay rfl rfl ⟨(by decide), by decide⟩ ⟨rfl, rfl⟩ (Nat.le_of_ble_eq_true rfl) dX7_feed_27 rfl (fun h4 hf => ?_)
    refine pw_aload_n dX7_feed_30 rfl ?_
    refine pw_iload_n dX7_feed_31 rfl ?_
    refine q_callV_v (kc2 := 0) (ks2 := 0) (as := [.int a3]) (rest := []) hf (fun x9 e9 => t_X7_lay e9) gX7_feed_X7_lay rfl hd9_X7_lay rfl rfl ⟨(by decide), by decide⟩ ⟨rfl, rfl⟩ (Nat.le_of_ble_eq_true rfl) dX7_feed_32 rfl (fun h5 hf => ?_)
    refine pw_aload_n dX7_feed_35 rfl ?_
    refine pw_iload dX7_feed_36 rfl ?_
    refine q_callV_v (kc2 := 0) (ks2 := 0) (as := [.int a4]) (rest := []) hf (fun x9 e9 => t_X7_lay e9) gX7_feed_X7_lay rfl hd9_X7_lay rfl rfl ⟨(by decide), by decide⟩ ⟨rfl, rfl⟩ (Nat.le_of_ble_eq_true rfl) dX7_feed_38 rfl (fun h6 hf => ?_)
    refine pw_aload_n dX7_feed_41 rfl ?_
    refine pw_iload dX7_feed_42 rfl ?_
    refine q_callV_v (kc2 := 0) (ks2 := 0) (as := [.int a5]) (rest := []) hf (fun x9 e9 => t_X7_lay e9) gX7_feed_X7_lay rfl hd9_X7_lay rfl rfl ⟨(by decide), by decide⟩ ⟨rfl, rfl⟩ (Nat.le_of_ble_eq_true rfl) dX7_feed_44 rfl (fun h7 hf => ?_)
    refine pw_aload_n dX7_feed_47 rfl ?_
    refine q_gI hf rfl (by decide) w9_X7_feed_X7 (by decide +kernel) dX7_feed_48 (fun x8 hf => ?_)
    exact pw_iret (x := x8) rfl rfl dX7_feed_51 (ret_iw hf)
  · refine pw_iconst (v := (-1)) dX7_feed_18 (by decide) ?_
    exact pw_iret (x := (-1 : Int32)) rfl rfl dX7_feed_19 (ret_iw hf)
/-! X7_end -/
abbrev m_X7_end : MD := (cX7_end, RX7, "end", wsX7_end, 2, (some .boolean))
theorem w9_X7_end_X7 : ∀ w ∈ u_ws RX7 TX7 31, w ∈ wsX7_end := by decide +kernel
theorem hd9_X7_end : yX7_end.cls = RX7 ∧ yX7_end.cls ≠ "java/lang/invoke/MethodHandle" ∧ yX7_end.cls ≠ "java/lang/invoke/VarHandle" ∧ (parseMethodDescriptor yX7_end.desc).map (fun d => d.parameters.length) = some 1 := by decide +kernel
def f_X7_end (h : Hp) (a0 : Nat) (a1 : Int32) : Option (Int32 × Hp) := (pV h a0 7 0 (.int (0 : Int32))).bind fun h1 => if a1 < 0 then (some (((0 : Int32), h1))) else ((gI h1 a0 7 2).bind fun x2 => if a1 ≤ x2 then ((pV h1 a0 7 2 (.int a1)).bind fun h3 => some (((1 : Int32), h3))) else (some (((0 : Int32), h1))))
set_option maxHeartbeats 4000000 in
set_option maxRecDepth 100000 in
theorem t_X7_end {g : GT} {l : Launch} {h : Hp} {a0 : Nat} {a1 : Int32} {r : (Int32 × Hp)} (hf : f_X7_end h a0 a1 = some r) : PM g l 1 0 0 yX7_end wsX7_end [.ref a0, .int a1] h (fun r9 h9 => r9 = some (.int r.1) ∧ h9 = r.2) := by
  refine pm_of (M := m_X7_end) (by decide) rfl rfl rfl (Nat.le_of_ble_eq_true rfl) (lo := [some (.ref a0), some (.int a1)]) rfl ?_
  rw [f_X7_end] at hf
  refine pw_aload_n dX7_end_0 rfl ?_
  refine pw_iconst (v := (0)) dX7_end_1 (by decide) ?_
  refine q_pV (ty := .int) hf tyX7 tyX7_ok nmX7 rfl (by decide) w9_X7_end_X7 (by decide +kernel) rfl (by decide +kernel) rfl rfl dX7_end_2 (fun h1 hf => ?_)
  refine pw_iload_n dX7_end_5 rfl ?_
  refine q_if_lt (tgt := 17) hf dX7_end_6 (by decide) (fun hf _ => ?_) (fun hf _ => ?_)
  · refine pw_iconst (v := (0)) dX7_end_17 (by decide) ?_
    exact pw_iret (x := (0 : Int32)) rfl rfl dX7_end_18 (ret_iw hf)
  · refine pw_iload_n dX7_end_9 rfl ?_
    refine pw_aload_n dX7_end_10 rfl ?_
    refine q_gI hf rfl (by decide) w9_X7_end_X7 (by decide +kernel) dX7_end_11 (fun x2 hf => ?_)
    refine q_icmp_le (tgt := 19) hf dX7_end_14 (by decide) (fun hf _ => ?_) (fun hf _ => ?_)
    · refine pw_aload_n dX7_end_19 rfl ?_
      refine pw_iload_n dX7_end_20 rfl ?_
      refine q_pV (ty := .int) hf tyX7 tyX7_ok nmX7 rfl (by decide) w9_X7_end_X7 (by decide +kernel) rfl (by decide +kernel) rfl rfl dX7_end_21 (fun h3 hf => ?_)
      refine pw_iconst (v := (1)) dX7_end_24 (by decide) ?_
      exact pw_iret (x := (1 : Int32)) rfl rfl dX7_end_25 (ret_iw hf)
    · refine pw_iconst (v := (0)) dX7_end_17 (by decide) ?_
      exact pw_iret (x := (0 : Int32)) rfl rfl dX7_end_18 (ret_iw hf)
/-! X7_tapeAt -/
abbrev m_X7_tapeAt : MD := (cX7_tapeAt, RX7, "tapeAt", wsX7_tapeAt, 2, (some .int))
theorem w9_X7_tapeAt_X7 : ∀ w ∈ u_ws RX7 TX7 31, w ∈ wsX7_tapeAt := by decide +kernel
theorem hd9_X7_tapeAt : yX7_tapeAt.cls = RX7 ∧ yX7_tapeAt.cls ≠ "java/lang/invoke/MethodHandle" ∧ yX7_tapeAt.cls ≠ "java/lang/invoke/VarHandle" ∧ (parseMethodDescriptor yX7_tapeAt.desc).map (fun d => d.parameters.length) = some 1 := by decide +kernel
def f_X7_tapeAt (h : Hp) (a0 : Nat) (a1 : Int32) : Option Int32 := (gI h a0 7 3).bind fun x1 => if x1 ≤ a1 then (some ((0 : Int32))) else ((gR h a0 7 1).bind fun x2 => (aI h 0 x2 a1).bind fun x3 => some (x3))
set_option maxHeartbeats 4000000 in
set_option maxRecDepth 100000 in
theorem t_X7_tapeAt {g : GT} {l : Launch} {h : Hp} {a0 : Nat} {a1 : Int32} {r : Int32} (hf : f_X7_tapeAt h a0 a1 = some r) : PM g l 1 0 0 yX7_tapeAt wsX7_tapeAt [.ref a0, .int a1] h (fun r9 h9 => r9 = some (.int r) ∧ h9 = h) := by
  refine pm_of (M := m_X7_tapeAt) (by decide) rfl rfl rfl (Nat.le_of_ble_eq_true rfl) (lo := [some (.ref a0), some (.int a1)]) rfl ?_
  rw [f_X7_tapeAt] at hf
  refine pw_iload_n dX7_tapeAt_0 rfl ?_
  refine pw_aload_n dX7_tapeAt_1 rfl ?_
  refine q_gI hf rfl (by decide) w9_X7_tapeAt_X7 (by decide +kernel) dX7_tapeAt_2 (fun x1 hf => ?_)
  refine q_icmp_ge (tgt := 17) hf dX7_tapeAt_5 (by decide) (fun hf _ => ?_) (fun hf _ => ?_)
  · refine pw_iconst (v := (0)) dX7_tapeAt_17 (by decide) ?_
    exact pw_iret (x := (0 : Int32)) rfl rfl dX7_tapeAt_18 ⟨congrArg (fun z => some (Value.int z)) (Option.some.inj hf), rfl⟩
  · refine pw_aload_n dX7_tapeAt_8 rfl ?_
    refine q_gR hf rfl (by decide) w9_X7_tapeAt_X7 (by decide +kernel) dX7_tapeAt_9 (fun x2 hf => ?_)
    refine pw_iload_n dX7_tapeAt_12 rfl ?_
    refine q_iald hf dX7_tapeAt_13 (fun x3 hf => ?_)
    refine pw_goto (tgt := 18) dX7_tapeAt_14 (by decide) ?_
    exact pw_iret (x := x3) rfl rfl dX7_tapeAt_18 ⟨congrArg (fun z => some (Value.int z)) (Option.some.inj hf), rfl⟩
/-! X7_isDigit -/
abbrev m_X7_isDigit : MD := (cX7_isDigit, RX7, "isDigit", wsX7_isDigit, 1, (some .boolean))
theorem hd9_X7_isDigit : yX7_isDigit.cls ≠ "java/lang/invoke/MethodHandle" ∧ yX7_isDigit.cls ≠ "java/lang/invoke/VarHandle" ∧ (parseMethodDescriptor yX7_isDigit.desc).map (fun d => d.parameters.length) = some 1 := by decide +kernel
def f_X7_isDigit (h : Hp) (a0 : Int32) : Option Int32 := if a0 < (48 : Int32) then (some ((0 : Int32))) else (if (57 : Int32) < a0 then (some ((0 : Int32))) else (some ((1 : Int32))))
set_option maxHeartbeats 4000000 in
set_option maxRecDepth 100000 in
theorem t_X7_isDigit {g : GT} {l : Launch} {h : Hp} {a0 : Int32} {r : Int32} (hf : f_X7_isDigit h a0 = some r) : PM g l 1 0 0 yX7_isDigit wsX7_isDigit [.int a0] h (fun r9 h9 => r9 = some (.int r) ∧ h9 = h) := by
  refine pm_of (M := m_X7_isDigit) (by decide) rfl rfl rfl (Nat.le_of_ble_eq_true rfl) (lo := [some (.int a0)]) rfl ?_
  rw [f_X7_isDigit] at hf
  refine pw_iload_n dX7_isDigit_0 rfl ?_
  refine pw_bipush (v := (48)) dX7_isDigit_1 (by decide) ?_
  refine q_icmp_lt (tgt := 16) hf dX7_isDigit_3 (by decide) (fun hf _ => ?_) (fun hf _ => ?_)
  · refine pw_iconst (v := (0)) dX7_isDigit_16 (by decide) ?_
    exact pw_iret (x := (0 : Int32)) rfl rfl dX7_isDigit_17 ⟨congrArg (fun z => some (Value.int z)) (Option.some.inj hf), rfl⟩
  · refine pw_iload_n dX7_isDigit_6 rfl ?_
    refine pw_bipush (v := (57)) dX7_isDigit_7 (by decide) ?_
    refine q_icmp_gt (tgt := 16) hf dX7_isDigit_9 (by decide) (fun hf _ => ?_) (fun hf _ => ?_)
    · refine pw_iconst (v := (0)) dX7_isDigit_16 (by decide) ?_
      exact pw_iret (x := (0 : Int32)) rfl rfl dX7_isDigit_17 ⟨congrArg (fun z => some (Value.int z)) (Option.some.inj hf), rfl⟩
    · refine pw_iconst (v := (1)) dX7_isDigit_12 (by decide) ?_
      refine pw_goto (tgt := 17) dX7_isDigit_13 (by decide) ?_
      exact pw_iret (x := (1 : Int32)) rfl rfl dX7_isDigit_17 ⟨congrArg (fun z => some (Value.int z)) (Option.some.inj hf), rfl⟩
/-! X7_isLetter -/
abbrev m_X7_isLetter : MD := (cX7_isLetter, RX7, "isLetter", wsX7_isLetter, 1, (some .boolean))
theorem hd9_X7_isLetter : yX7_isLetter.cls ≠ "java/lang/invoke/MethodHandle" ∧ yX7_isLetter.cls ≠ "java/lang/invoke/VarHandle" ∧ (parseMethodDescriptor yX7_isLetter.desc).map (fun d => d.parameters.length) = some 1 := by decide +kernel
def f_X7_isLetter (h : Hp) (a0 : Int32) : Option Int32 := if a0 < (97 : Int32) then (some ((0 : Int32))) else (if (122 : Int32) < a0 then (some ((0 : Int32))) else (some ((1 : Int32))))
set_option maxHeartbeats 4000000 in
set_option maxRecDepth 100000 in
theorem t_X7_isLetter {g : GT} {l : Launch} {h : Hp} {a0 : Int32} {r : Int32} (hf : f_X7_isLetter h a0 = some r) : PM g l 1 0 0 yX7_isLetter wsX7_isLetter [.int a0] h (fun r9 h9 => r9 = some (.int r) ∧ h9 = h) := by
  refine pm_of (M := m_X7_isLetter) (by decide) rfl rfl rfl (Nat.le_of_ble_eq_true rfl) (lo := [some (.int a0)]) rfl ?_
  rw [f_X7_isLetter] at hf
  refine pw_iload_n dX7_isLetter_0 rfl ?_
  refine pw_bipush (v := (97)) dX7_isLetter_1 (by decide) ?_
  refine q_icmp_lt (tgt := 16) hf dX7_isLetter_3 (by decide) (fun hf _ => ?_) (fun hf _ => ?_)
  · refine pw_iconst (v := (0)) dX7_isLetter_16 (by decide) ?_
    exact pw_iret (x := (0 : Int32)) rfl rfl dX7_isLetter_17 ⟨congrArg (fun z => some (Value.int z)) (Option.some.inj hf), rfl⟩
  · refine pw_iload_n dX7_isLetter_6 rfl ?_
    refine pw_bipush (v := (122)) dX7_isLetter_7 (by decide) ?_
    refine q_icmp_gt (tgt := 16) hf dX7_isLetter_9 (by decide) (fun hf _ => ?_) (fun hf _ => ?_)
    · refine pw_iconst (v := (0)) dX7_isLetter_16 (by decide) ?_
      exact pw_iret (x := (0 : Int32)) rfl rfl dX7_isLetter_17 ⟨congrArg (fun z => some (Value.int z)) (Option.some.inj hf), rfl⟩
    · refine pw_iconst (v := (1)) dX7_isLetter_12 (by decide) ?_
      refine pw_goto (tgt := 17) dX7_isLetter_13 (by decide) ?_
      exact pw_iret (x := (1 : Int32)) rfl rfl dX7_isLetter_17 ⟨congrArg (fun z => some (Value.int z)) (Option.some.inj hf), rfl⟩
/-! X7_goes -/
abbrev m_X7_goes : MD := (cX7_goes, RX7, "goes", wsX7_goes, 5, none)
theorem w9_X7_goes_X7 : ∀ w ∈ u_ws RX7 TX7 31, w ∈ wsX7_goes := by decide +kernel
theorem hd9_X7_goes : yX7_goes.cls = RX7 ∧ yX7_goes.cls ≠ "java/lang/invoke/MethodHandle" ∧ yX7_goes.cls ≠ "java/lang/invoke/VarHandle" ∧ (parseMethodDescriptor yX7_goes.desc).map (fun d => d.parameters.length) = some 0 := by decide +kernel
def f_X7_goes_177 : Nat → Nat → Int32 → Int32 → Hp → Option Hp
  | 0, _, _, _, _ => none
  | n + 1, v0, v2, v3, h => (gI h v0 7 4).bind fun x1 => if oK h v0 7 = true then (f_X7_tapeAt h v0 x1).bind fun x2 => (f_X7_isLetter h x2).bind fun x3 => if x3 = 0 then ((gI h v0 7 4).bind fun x68 => if oK h v0 7 = true then (f_X7_tapeAt h v0 x68).bind fun x69 => (f_X7_isDigit h x69).bind fun x70 => if x70 = 0 then (if v3 = 0 then ((pV h v0 7 6 (.int (1 : Int32))).bind fun h71 => some h71) else (if v2 = 0 then ((gI h v0 7 4).bind fun x74 => (gI h v0 7 5).bind fun x75 => if (x74 - x75) ≤ (2 : Int32) then (if v2 = 0 then ((pV h v0 7 6 (.int (3 : Int32))).bind fun h76 => some h76) else ((pV h v0 7 6 (.int (2 : Int32))).bind fun h77 => some h77)) else ((pV h v0 7 6 (.int (1 : Int32))).bind fun h78 => some h78)) else (if v2 = 0 then ((pV h v0 7 6 (.int (3 : Int32))).bind fun h72 => some h72) else ((pV h v0 7 6 (.int (2 : Int32))).bind fun h73 => some h73)))) else ((gR h v0 7 1).bind fun x79 => (gI h v0 7 4).bind fun x80 => (aI h 0 x79 x80).bind fun x81 => if v3 = 0 then ((gI h v0 7 4).bind fun x82 => (gI h v0 7 5).bind fun x83 => if (6 : Int32) ≤ (x82 - x83) then ((gI h v0 7 4).bind fun x84 => (gI h v0 7 5).bind fun x85 => if (2 : Int32) ≤ (x84 - x85) then ((gI h v0 7 4).bind fun x86 => (pV h v0 7 4 (.int (x86 + (1 : Int32)))).bind fun h87 => f_X7_goes_177 n v0 v2 (0 : Int32) h87) else ((gI h v0 7 7).bind fun x88 => (pV h v0 7 7 (.int ((((10 : Int32) * x88) + x81) - (48 : Int32)))).bind fun h89 => (gI h89 v0 7 4).bind fun x90 => (pV h89 v0 7 4 (.int (x90 + (1 : Int32)))).bind fun h91 => f_X7_goes_177 n v0 v2 (0 : Int32) h91)) else ((gL h v0 7 10).bind fun x92 => (pV h v0 7 10 (.long ((((27 : Int64) * x92) + x81.toInt64) - (96 : Int64)))).bind fun h93 => (gI h93 v0 7 4).bind fun x94 => (gI h93 v0 7 5).bind fun x95 => if (2 : Int32) ≤ (x94 - x95) then ((gI h93 v0 7 4).bind fun x96 => (pV h93 v0 7 4 (.int (x96 + (1 : Int32)))).bind fun h97 => f_X7_goes_177 n v0 v2 (0 : Int32) h97) else ((gI h93 v0 7 7).bind fun x98 => (pV h93 v0 7 7 (.int ((((10 : Int32) * x98) + x81) - (48 : Int32)))).bind fun h99 => (gI h99 v0 7 4).bind fun x100 => (pV h99 v0 7 4 (.int (x100 + (1 : Int32)))).bind fun h101 => f_X7_goes_177 n v0 v2 (0 : Int32) h101))) else ((f_X7_isLetter h x81).bind fun x102 => if x102 = v2 then ((gI h v0 7 4).bind fun x123 => (gI h v0 7 5).bind fun x124 => if (6 : Int32) ≤ (x123 - x124) then ((gI h v0 7 4).bind fun x125 => (gI h v0 7 5).bind fun x126 => if (2 : Int32) ≤ (x125 - x126) then ((gI h v0 7 4).bind fun x127 => (pV h v0 7 4 (.int (x127 + (1 : Int32)))).bind fun h128 => f_X7_goes_177 n v0 v2 (1 : Int32) h128) else ((gI h v0 7 7).bind fun x129 => (pV h v0 7 7 (.int ((((10 : Int32) * x129) + x81) - (48 : Int32)))).bind fun h130 => (gI h130 v0 7 4).bind fun x131 => (pV h130 v0 7 4 (.int (x131 + (1 : Int32)))).bind fun h132 => f_X7_goes_177 n v0 v2 (1 : Int32) h132)) else ((gL h v0 7 10).bind fun x133 => (pV h v0 7 10 (.long ((((27 : Int64) * x133) + x81.toInt64) - (96 : Int64)))).bind fun h134 => (gI h134 v0 7 4).bind fun x135 => (gI h134 v0 7 5).bind fun x136 => if (2 : Int32) ≤ (x135 - x136) then ((gI h134 v0 7 4).bind fun x137 => (pV h134 v0 7 4 (.int (x137 + (1 : Int32)))).bind fun h138 => f_X7_goes_177 n v0 v2 (1 : Int32) h138) else ((gI h134 v0 7 7).bind fun x139 => (pV h134 v0 7 7 (.int ((((10 : Int32) * x139) + x81) - (48 : Int32)))).bind fun h140 => (gI h140 v0 7 4).bind fun x141 => (pV h140 v0 7 4 (.int (x141 + (1 : Int32)))).bind fun h142 => f_X7_goes_177 n v0 v2 (1 : Int32) h142))) else ((gI h v0 7 4).bind fun x103 => (gI h v0 7 5).bind fun x104 => if (6 : Int32) ≤ (x103 - x104) then ((gI h v0 7 4).bind fun x105 => (gI h v0 7 5).bind fun x106 => if (2 : Int32) ≤ (x105 - x106) then ((gI h v0 7 4).bind fun x107 => (pV h v0 7 4 (.int (x107 + (1 : Int32)))).bind fun h108 => f_X7_goes_177 n v0 v2 (0 : Int32) h108) else ((gI h v0 7 7).bind fun x109 => (pV h v0 7 7 (.int ((((10 : Int32) * x109) + x81) - (48 : Int32)))).bind fun h110 => (gI h110 v0 7 4).bind fun x111 => (pV h110 v0 7 4 (.int (x111 + (1 : Int32)))).bind fun h112 => f_X7_goes_177 n v0 v2 (0 : Int32) h112)) else ((gL h v0 7 10).bind fun x113 => (pV h v0 7 10 (.long ((((27 : Int64) * x113) + x81.toInt64) - (96 : Int64)))).bind fun h114 => (gI h114 v0 7 4).bind fun x115 => (gI h114 v0 7 5).bind fun x116 => if (2 : Int32) ≤ (x115 - x116) then ((gI h114 v0 7 4).bind fun x117 => (pV h114 v0 7 4 (.int (x117 + (1 : Int32)))).bind fun h118 => f_X7_goes_177 n v0 v2 (0 : Int32) h118) else ((gI h114 v0 7 7).bind fun x119 => (pV h114 v0 7 7 (.int ((((10 : Int32) * x119) + x81) - (48 : Int32)))).bind fun h120 => (gI h120 v0 7 4).bind fun x121 => (pV h120 v0 7 4 (.int (x121 + (1 : Int32)))).bind fun h122 => f_X7_goes_177 n v0 v2 (0 : Int32) h122))))) else none) else ((gR h v0 7 1).bind fun x4 => (gI h v0 7 4).bind fun x5 => (aI h 0 x4 x5).bind fun x6 => if v3 = 0 then ((gI h v0 7 4).bind fun x7 => (gI h v0 7 5).bind fun x8 => if (6 : Int32) ≤ (x7 - x8) then ((gI h v0 7 4).bind fun x9 => (gI h v0 7 5).bind fun x10 => if (2 : Int32) ≤ (x9 - x10) then ((gI h v0 7 4).bind fun x11 => (pV h v0 7 4 (.int (x11 + (1 : Int32)))).bind fun h12 => f_X7_goes_177 n v0 v2 (0 : Int32) h12) else ((gI h v0 7 7).bind fun x13 => (pV h v0 7 7 (.int ((((10 : Int32) * x13) + x6) - (48 : Int32)))).bind fun h14 => (gI h14 v0 7 4).bind fun x15 => (pV h14 v0 7 4 (.int (x15 + (1 : Int32)))).bind fun h16 => f_X7_goes_177 n v0 v2 (0 : Int32) h16)) else ((gL h v0 7 10).bind fun x17 => (pV h v0 7 10 (.long ((((27 : Int64) * x17) + x6.toInt64) - (96 : Int64)))).bind fun h18 => (gI h18 v0 7 4).bind fun x19 => (gI h18 v0 7 5).bind fun x20 => if (2 : Int32) ≤ (x19 - x20) then ((gI h18 v0 7 4).bind fun x21 => (pV h18 v0 7 4 (.int (x21 + (1 : Int32)))).bind fun h22 => f_X7_goes_177 n v0 v2 (0 : Int32) h22) else ((gI h18 v0 7 7).bind fun x23 => (pV h18 v0 7 7 (.int ((((10 : Int32) * x23) + x6) - (48 : Int32)))).bind fun h24 => (gI h24 v0 7 4).bind fun x25 => (pV h24 v0 7 4 (.int (x25 + (1 : Int32)))).bind fun h26 => f_X7_goes_177 n v0 v2 (0 : Int32) h26))) else ((f_X7_isLetter h x6).bind fun x27 => if x27 = v2 then ((gI h v0 7 4).bind fun x48 => (gI h v0 7 5).bind fun x49 => if (6 : Int32) ≤ (x48 - x49) then ((gI h v0 7 4).bind fun x50 => (gI h v0 7 5).bind fun x51 => if (2 : Int32) ≤ (x50 - x51) then ((gI h v0 7 4).bind fun x52 => (pV h v0 7 4 (.int (x52 + (1 : Int32)))).bind fun h53 => f_X7_goes_177 n v0 v2 (1 : Int32) h53) else ((gI h v0 7 7).bind fun x54 => (pV h v0 7 7 (.int ((((10 : Int32) * x54) + x6) - (48 : Int32)))).bind fun h55 => (gI h55 v0 7 4).bind fun x56 => (pV h55 v0 7 4 (.int (x56 + (1 : Int32)))).bind fun h57 => f_X7_goes_177 n v0 v2 (1 : Int32) h57)) else ((gL h v0 7 10).bind fun x58 => (pV h v0 7 10 (.long ((((27 : Int64) * x58) + x6.toInt64) - (96 : Int64)))).bind fun h59 => (gI h59 v0 7 4).bind fun x60 => (gI h59 v0 7 5).bind fun x61 => if (2 : Int32) ≤ (x60 - x61) then ((gI h59 v0 7 4).bind fun x62 => (pV h59 v0 7 4 (.int (x62 + (1 : Int32)))).bind fun h63 => f_X7_goes_177 n v0 v2 (1 : Int32) h63) else ((gI h59 v0 7 7).bind fun x64 => (pV h59 v0 7 7 (.int ((((10 : Int32) * x64) + x6) - (48 : Int32)))).bind fun h65 => (gI h65 v0 7 4).bind fun x66 => (pV h65 v0 7 4 (.int (x66 + (1 : Int32)))).bind fun h67 => f_X7_goes_177 n v0 v2 (1 : Int32) h67))) else ((gI h v0 7 4).bind fun x28 => (gI h v0 7 5).bind fun x29 => if (6 : Int32) ≤ (x28 - x29) then ((gI h v0 7 4).bind fun x30 => (gI h v0 7 5).bind fun x31 => if (2 : Int32) ≤ (x30 - x31) then ((gI h v0 7 4).bind fun x32 => (pV h v0 7 4 (.int (x32 + (1 : Int32)))).bind fun h33 => f_X7_goes_177 n v0 v2 (0 : Int32) h33) else ((gI h v0 7 7).bind fun x34 => (pV h v0 7 7 (.int ((((10 : Int32) * x34) + x6) - (48 : Int32)))).bind fun h35 => (gI h35 v0 7 4).bind fun x36 => (pV h35 v0 7 4 (.int (x36 + (1 : Int32)))).bind fun h37 => f_X7_goes_177 n v0 v2 (0 : Int32) h37)) else ((gL h v0 7 10).bind fun x38 => (pV h v0 7 10 (.long ((((27 : Int64) * x38) + x6.toInt64) - (96 : Int64)))).bind fun h39 => (gI h39 v0 7 4).bind fun x40 => (gI h39 v0 7 5).bind fun x41 => if (2 : Int32) ≤ (x40 - x41) then ((gI h39 v0 7 4).bind fun x42 => (pV h39 v0 7 4 (.int (x42 + (1 : Int32)))).bind fun h43 => f_X7_goes_177 n v0 v2 (0 : Int32) h43) else ((gI h39 v0 7 7).bind fun x44 => (pV h39 v0 7 7 (.int ((((10 : Int32) * x44) + x6) - (48 : Int32)))).bind fun h45 => (gI h45 v0 7 4).bind fun x46 => (pV h45 v0 7 4 (.int (x46 + (1 : Int32)))).bind fun h47 => f_X7_goes_177 n v0 v2 (0 : Int32) h47))))) else none
set_option maxHeartbeats 4000000 in
set_option maxRecDepth 100000 in
theorem w_X7_goes_177 {g : GT} {l : Launch} {r : Hp} : ∀ (n : Nat) (v0 : Nat) (v2 : Int32) (v3 : Int32) (h : Hp), f_X7_goes_177 n v0 v2 v3 h = some r → PW g l m_X7_goes 2 0 0 177 [some (.ref v0), none, some (.int v2), some (.int v3), none] [] h (fun r9 h9 => r9 = none ∧ h9 = r) := by
  intro n
  induction n with
  | zero => intro v0 v2 v3 h hf; cases hf
  | succ n ih =>
    intro v0 v2 v3 h hf
    rw [f_X7_goes_177] at hf
    refine pw_aload_n dX7_goes_177 rfl ?_
    refine pw_aload_n dX7_goes_178 rfl ?_
    refine q_gI hf rfl (by decide) w9_X7_goes_X7 (by decide +kernel) dX7_goes_179 (fun x1 hf => ?_)
    refine q_callV_i (kc2 := 0) (ks2 := 0) (as := [.int x1]) (rest := []) hf (fun x9 e9 => t_X7_tapeAt e9) gX7_goes_X7_tapeAt rfl hd9_X7_tapeAt rfl rfl ⟨(by decide), by decide⟩ ⟨rfl, rfl⟩ (Nat.le_of_ble_eq_true rfl) dX7_goes_182 rfl (fun x2 hf => ?_)
    refine q_callS_i (kc2 := 0) (ks2 := 0) (as := [.int x2]) (rest := []) hf (fun x9 e9 => t_X7_isLetter e9) gX7_goes_X7_isLetter rfl hd9_X7_isLetter rfl ⟨(by decide), by decide⟩ ⟨rfl, rfl⟩ (Nat.le_of_ble_eq_true rfl) dX7_goes_185 rfl (fun x3 hf => ?_)
    refine q_if_ne (tgt := 205) hf dX7_goes_188 (by decide) (fun hf _ => ?_) (fun hf _ => ?_)
    · refine pw_aload_n dX7_goes_205 rfl ?_
      refine q_gR hf rfl (by decide) w9_X7_goes_X7 (by decide +kernel) dX7_goes_206 (fun x4 hf => ?_)
      refine pw_aload_n dX7_goes_209 rfl ?_
      refine q_gI hf rfl (by decide) w9_X7_goes_X7 (by decide +kernel) dX7_goes_210 (fun x5 hf => ?_)
      refine q_iald hf dX7_goes_213 (fun x6 hf => ?_)
      refine pw_istore dX7_goes_214 (by decide) rfl ?_
      dsimp only [lset, lset2, clr]
      refine pw_iload_n dX7_goes_216 rfl ?_
      refine q_if_eq (tgt := 233) hf dX7_goes_217 (by decide) (fun hf _ => ?_) (fun hf _ => ?_)
      · refine pw_iconst (v := (0)) dX7_goes_233 (by decide) ?_
        refine pw_istore_n dX7_goes_234 (by decide) rfl ?_
        dsimp only [lset, lset2, clr]
        refine pw_aload_n dX7_goes_235 rfl ?_
        refine q_gI hf rfl (by decide) w9_X7_goes_X7 (by decide +kernel) dX7_goes_236 (fun x7 hf => ?_)
        refine pw_aload_n dX7_goes_239 rfl ?_
        refine q_gI hf rfl (by decide) w9_X7_goes_X7 (by decide +kernel) dX7_goes_240 (fun x8 hf => ?_)
        refine pw_isub dX7_goes_243 ?_
        refine pw_bipush (v := (6)) dX7_goes_244 (by decide) ?_
        refine q_icmp_ge (tgt := 269) hf dX7_goes_246 (by decide) (fun hf _ => ?_) (fun hf _ => ?_)
        · refine pw_aload_n dX7_goes_269 rfl ?_
          refine q_gI hf rfl (by decide) w9_X7_goes_X7 (by decide +kernel) dX7_goes_270 (fun x9 hf => ?_)
          refine pw_aload_n dX7_goes_273 rfl ?_
          refine q_gI hf rfl (by decide) w9_X7_goes_X7 (by decide +kernel) dX7_goes_274 (fun x10 hf => ?_)
          refine pw_isub dX7_goes_277 ?_
          refine pw_iconst (v := (2)) dX7_goes_278 (by decide) ?_
          refine q_icmp_ge (tgt := 299) hf dX7_goes_279 (by decide) (fun hf _ => ?_) (fun hf _ => ?_)
          · refine pw_aload_n dX7_goes_299 rfl ?_
            refine pw_dup dX7_goes_300 rfl ?_
            refine q_gI hf rfl (by decide) w9_X7_goes_X7 (by decide +kernel) dX7_goes_301 (fun x11 hf => ?_)
            refine pw_iconst (v := (1)) dX7_goes_304 (by decide) ?_
            refine pw_iadd dX7_goes_305 ?_
            refine q_pV (ty := .int) hf tyX7 tyX7_ok nmX7 rfl (by decide) w9_X7_goes_X7 (by decide +kernel) rfl (by decide +kernel) rfl rfl dX7_goes_306 (fun h12 hf => ?_)
            refine pw_goto (tgt := 177) dX7_goes_309 (by decide) ?_
            exact pw_lo (lle_s rfl (lle_n (lle_s rfl (lle_s rfl (lle_n lle_0))))) (ih _ _ _ _ hf)
          · refine pw_aload_n dX7_goes_282 rfl ?_
            refine pw_bipush (v := (10)) dX7_goes_283 (by decide) ?_
            refine pw_aload_n dX7_goes_285 rfl ?_
            refine q_gI hf rfl (by decide) w9_X7_goes_X7 (by decide +kernel) dX7_goes_286 (fun x13 hf => ?_)
            refine pw_imul dX7_goes_289 ?_
            refine pw_iload dX7_goes_290 rfl ?_
            refine pw_iadd dX7_goes_292 ?_
            refine pw_bipush (v := (48)) dX7_goes_293 (by decide) ?_
            refine pw_isub dX7_goes_295 ?_
            refine q_pV (ty := .int) hf tyX7 tyX7_ok nmX7 rfl (by decide) w9_X7_goes_X7 (by decide +kernel) rfl (by decide +kernel) rfl rfl dX7_goes_296 (fun h14 hf => ?_)
            refine pw_aload_n dX7_goes_299 rfl ?_
            refine pw_dup dX7_goes_300 rfl ?_
            refine q_gI hf rfl (by decide) w9_X7_goes_X7 (by decide +kernel) dX7_goes_301 (fun x15 hf => ?_)
            refine pw_iconst (v := (1)) dX7_goes_304 (by decide) ?_
            refine pw_iadd dX7_goes_305 ?_
            refine q_pV (ty := .int) hf tyX7 tyX7_ok nmX7 rfl (by decide) w9_X7_goes_X7 (by decide +kernel) rfl (by decide +kernel) rfl rfl dX7_goes_306 (fun h16 hf => ?_)
            refine pw_goto (tgt := 177) dX7_goes_309 (by decide) ?_
            exact pw_lo (lle_s rfl (lle_n (lle_s rfl (lle_s rfl (lle_n lle_0))))) (ih _ _ _ _ hf)
        · refine pw_aload_n dX7_goes_249 rfl ?_
          refine pw_ldc2 (v := (27)) dX7_goes_250 (by decide +kernel) ?_
          refine pw_aload_n dX7_goes_253 rfl ?_
          refine q_gL hf rfl (by decide) w9_X7_goes_X7 (by decide +kernel) dX7_goes_254 (fun x17 hf => ?_)
          refine pw_lmul dX7_goes_257 ?_
          refine pw_iload dX7_goes_258 rfl ?_
          refine pw_i2l dX7_goes_260 ?_
          refine pw_ladd dX7_goes_261 ?_
          refine pw_ldc2 (v := (96)) dX7_goes_262 (by decide +kernel) ?_
          refine pw_lsub dX7_goes_265 ?_
          refine q_pV (ty := .long) hf tyX7 tyX7_ok nmX7 rfl (by decide) w9_X7_goes_X7 (by decide +kernel) rfl (by decide +kernel) rfl rfl dX7_goes_266 (fun h18 hf => ?_)
          refine pw_aload_n dX7_goes_269 rfl ?_
          refine q_gI hf rfl (by decide) w9_X7_goes_X7 (by decide +kernel) dX7_goes_270 (fun x19 hf => ?_)
          refine pw_aload_n dX7_goes_273 rfl ?_
          refine q_gI hf rfl (by decide) w9_X7_goes_X7 (by decide +kernel) dX7_goes_274 (fun x20 hf => ?_)
          refine pw_isub dX7_goes_277 ?_
          refine pw_iconst (v := (2)) dX7_goes_278 (by decide) ?_
          refine q_icmp_ge (tgt := 299) hf dX7_goes_279 (by decide) (fun hf _ => ?_) (fun hf _ => ?_)
          · refine pw_aload_n dX7_goes_299 rfl ?_
            refine pw_dup dX7_goes_300 rfl ?_
            refine q_gI hf rfl (by decide) w9_X7_goes_X7 (by decide +kernel) dX7_goes_301 (fun x21 hf => ?_)
            refine pw_iconst (v := (1)) dX7_goes_304 (by decide) ?_
            refine pw_iadd dX7_goes_305 ?_
            refine q_pV (ty := .int) hf tyX7 tyX7_ok nmX7 rfl (by decide) w9_X7_goes_X7 (by decide +kernel) rfl (by decide +kernel) rfl rfl dX7_goes_306 (fun h22 hf => ?_)
            refine pw_goto (tgt := 177) dX7_goes_309 (by decide) ?_
            exact pw_lo (lle_s rfl (lle_n (lle_s rfl (lle_s rfl (lle_n lle_0))))) (ih _ _ _ _ hf)
          · refine pw_aload_n dX7_goes_282 rfl ?_
            refine pw_bipush (v := (10)) dX7_goes_283 (by decide) ?_
            refine pw_aload_n dX7_goes_285 rfl ?_
            refine q_gI hf rfl (by decide) w9_X7_goes_X7 (by decide +kernel) dX7_goes_286 (fun x23 hf => ?_)
            refine pw_imul dX7_goes_289 ?_
            refine pw_iload dX7_goes_290 rfl ?_
            refine pw_iadd dX7_goes_292 ?_
            refine pw_bipush (v := (48)) dX7_goes_293 (by decide) ?_
            refine pw_isub dX7_goes_295 ?_
            refine q_pV (ty := .int) hf tyX7 tyX7_ok nmX7 rfl (by decide) w9_X7_goes_X7 (by decide +kernel) rfl (by decide +kernel) rfl rfl dX7_goes_296 (fun h24 hf => ?_)
            refine pw_aload_n dX7_goes_299 rfl ?_
            refine pw_dup dX7_goes_300 rfl ?_
            refine q_gI hf rfl (by decide) w9_X7_goes_X7 (by decide +kernel) dX7_goes_301 (fun x25 hf => ?_)
            refine pw_iconst (v := (1)) dX7_goes_304 (by decide) ?_
            refine pw_iadd dX7_goes_305 ?_
            refine q_pV (ty := .int) hf tyX7 tyX7_ok nmX7 rfl (by decide) w9_X7_goes_X7 (by decide +kernel) rfl (by decide +kernel) rfl rfl dX7_goes_306 (fun h26 hf => ?_)
            refine pw_goto (tgt := 177) dX7_goes_309 (by decide) ?_
            exact pw_lo (lle_s rfl (lle_n (lle_s rfl (lle_s rfl (lle_n lle_0))))) (ih _ _ _ _ hf)
      · refine pw_iload dX7_goes_220 rfl ?_
        refine q_callS_i (kc2 := 0) (ks2 := 0) (as := [.int x6]) (rest := []) hf (fun x9 e9 => t_X7_isLetter e9) gX7_goes_X7_isLetter rfl hd9_X7_isLetter rfl ⟨(by decide), by decide⟩ ⟨rfl, rfl⟩ (Nat.le_of_ble_eq_true rfl) dX7_goes_222 rfl (fun x27 hf => ?_)
        refine pw_iload_n dX7_goes_225 rfl ?_
        refine q_icmp_ne (tgt := 233) hf dX7_goes_226 (by decide) (fun hf _ => ?_) (fun hf _ => ?_)
        · refine pw_iconst (v := (0)) dX7_goes_233 (by decide) ?_
          refine pw_istore_n dX7_goes_234 (by decide) rfl ?_
          dsimp only [lset, lset2, clr]
          refine pw_aload_n dX7_goes_235 rfl ?_
          refine q_gI hf rfl (by decide) w9_X7_goes_X7 (by decide +kernel) dX7_goes_236 (fun x28 hf => ?_)
          refine pw_aload_n dX7_goes_239 rfl ?_
          refine q_gI hf rfl (by decide) w9_X7_goes_X7 (by decide +kernel) dX7_goes_240 (fun x29 hf => ?_)
          refine pw_isub dX7_goes_243 ?_
          refine pw_bipush (v := (6)) dX7_goes_244 (by decide) ?_
          refine q_icmp_ge (tgt := 269) hf dX7_goes_246 (by decide) (fun hf _ => ?_) (fun hf _ => ?_)
          · refine pw_aload_n dX7_goes_269 rfl ?_
            refine q_gI hf rfl (by decide) w9_X7_goes_X7 (by decide +kernel) dX7_goes_270 (fun x30 hf => ?_)
            refine pw_aload_n dX7_goes_273 rfl ?_
            refine q_gI hf rfl (by decide) w9_X7_goes_X7 (by decide +kernel) dX7_goes_274 (fun x31 hf => ?_)
            refine pw_isub dX7_goes_277 ?_
            refine pw_iconst (v := (2)) dX7_goes_278 (by decide) ?_
            refine q_icmp_ge (tgt := 299) hf dX7_goes_279 (by decide) (fun hf _ => ?_) (fun hf _ => ?_)
            · refine pw_aload_n dX7_goes_299 rfl ?_
              refine pw_dup dX7_goes_300 rfl ?_
              refine q_gI hf rfl (by decide) w9_X7_goes_X7 (by decide +kernel) dX7_goes_301 (fun x32 hf => ?_)
              refine pw_iconst (v := (1)) dX7_goes_304 (by decide) ?_
              refine pw_iadd dX7_goes_305 ?_
              refine q_pV (ty := .int) hf tyX7 tyX7_ok nmX7 rfl (by decide) w9_X7_goes_X7 (by decide +kernel) rfl (by decide +kernel) rfl rfl dX7_goes_306 (fun h33 hf => ?_)
              refine pw_goto (tgt := 177) dX7_goes_309 (by decide) ?_
              exact pw_lo (lle_s rfl (lle_n (lle_s rfl (lle_s rfl (lle_n lle_0))))) (ih _ _ _ _ hf)
            · refine pw_aload_n dX7_goes_282 rfl ?_
              refine pw_bipush (v := (10)) dX7_goes_283 (by decide) ?_
              refine pw_aload_n dX7_goes_285 rfl ?_
              refine q_gI hf rfl (by decide) w9_X7_goes_X7 (by decide +kernel) dX7_goes_286 (fun x34 hf => ?_)
              refine pw_imul dX7_goes_289 ?_
              refine pw_iload dX7_goes_290 rfl ?_
              refine pw_iadd dX7_goes_292 ?_
              refine pw_bipush (v := (48)) dX7_goes_293 (by decide) ?_
              refine pw_isub dX7_goes_295 ?_
              refine q_pV (ty := .int) hf tyX7 tyX7_ok nmX7 rfl (by decide) w9_X7_goes_X7 (by decide +kernel) rfl (by decide +kernel) rfl rfl dX7_goes_296 (fun h35 hf => ?_)
              refine pw_aload_n dX7_goes_299 rfl ?_
              refine pw_dup dX7_goes_300 rfl ?_
              refine q_gI hf rfl (by decide) w9_X7_goes_X7 (by decide +kernel) dX7_goes_301 (fun x36 hf => ?_)
              refine pw_iconst (v := (1)) dX7_goes_304 (by decide) ?_
              refine pw_iadd dX7_goes_305 ?_
              refine q_pV (ty := .int) hf tyX7 tyX7_ok nmX7 rfl (by decide) w9_X7_goes_X7 (by decide +kernel) rfl (by decide +kernel) rfl rfl dX7_goes_306 (fun h37 hf => ?_)
              refine pw_goto (tgt := 177) dX7_goes_309 (by decide) ?_
              exact pw_lo (lle_s rfl (lle_n (lle_s rfl (lle_s rfl (lle_n lle_0))))) (ih _ _ _ _ hf)
          · refine pw_aload_n dX7_goes_249 rfl ?_
            refine pw_ldc2 (v := (27)) dX7_goes_250 (by decide +kernel) ?_
            refine pw_aload_n dX7_goes_253 rfl ?_
            refine q_gL hf rfl (by decide) w9_X7_goes_X7 (by decide +kernel) dX7_goes_254 (fun x38 hf => ?_)
            refine pw_lmul dX7_goes_257 ?_
            refine pw_iload dX7_goes_258 rfl ?_
            refine pw_i2l dX7_goes_260 ?_
            refine pw_ladd dX7_goes_261 ?_
            refine pw_ldc2 (v := (96)) dX7_goes_262 (by decide +kernel) ?_
            refine pw_lsub dX7_goes_265 ?_
            refine q_pV (ty := .long) hf tyX7 tyX7_ok nmX7 rfl (by decide) w9_X7_goes_X7 (by decide +kernel) rfl (by decide +kernel) rfl rfl dX7_goes_266 (fun h39 hf => ?_)
            refine pw_aload_n dX7_goes_269 rfl ?_
            refine q_gI hf rfl (by decide) w9_X7_goes_X7 (by decide +kernel) dX7_goes_270 (fun x40 hf => ?_)
            refine pw_aload_n dX7_goes_273 rfl ?_
            refine q_gI hf rfl (by decide) w9_X7_goes_X7 (by decide +kernel) dX7_goes_274 (fun x41 hf => ?_)
            refine pw_isub dX7_goes_277 ?_
            refine pw_iconst (v := (2)) dX7_goes_278 (by decide) ?_
            refine q_icmp_ge (tgt := 299) hf dX7_goes_279 (by decide) (fun hf _ => ?_) (fun hf _ => ?_)
            · refine pw_aload_n dX7_goes_299 rfl ?_
              refine pw_dup dX7_goes_300 rfl ?_
              refine q_gI hf rfl (by decide) w9_X7_goes_X7 (by decide +kernel) dX7_goes_301 (fun x42 hf => ?_)
              refine pw_iconst (v := (1)) dX7_goes_304 (by decide) ?_
              refine pw_iadd dX7_goes_305 ?_
              refine q_pV (ty := .int) hf tyX7 tyX7_ok nmX7 rfl (by decide) w9_X7_goes_X7 (by decide +kernel) rfl (by decide +kernel) rfl rfl dX7_goes_306 (fun h43 hf => ?_)
              refine pw_goto (tgt := 177) dX7_goes_309 (by decide) ?_
              exact pw_lo (lle_s rfl (lle_n (lle_s rfl (lle_s rfl (lle_n lle_0))))) (ih _ _ _ _ hf)
            · refine pw_aload_n dX7_goes_282 rfl ?_
              refine pw_bipush (v := (10)) dX7_goes_283 (by decide) ?_
              refine pw_aload_n dX7_goes_285 rfl ?_
              refine q_gI hf rfl (by decide) w9_X7_goes_X7 (by decide +kernel) dX7_goes_286 (fun x44 hf => ?_)
              refine pw_imul dX7_goes_289 ?_
              refine pw_iload dX7_goes_290 rfl ?_
              refine pw_iadd dX7_goes_292 ?_
              refine pw_bipush (v := (48)) dX7_goes_293 (by decide) ?_
              refine pw_isub dX7_goes_295 ?_
              refine q_pV (ty := .int) hf tyX7 tyX7_ok nmX7 rfl (by decide) w9_X7_goes_X7 (by decide +kernel) rfl (by decide +kernel) rfl rfl dX7_goes_296 (fun h45 hf => ?_)
              refine pw_aload_n dX7_goes_299 rfl ?_
              refine pw_dup dX7_goes_300 rfl ?_
              refine q_gI hf rfl (by decide) w9_X7_goes_X7 (by decide +kernel) dX7_goes_301 (fun x46 hf => ?_)
              refine pw_iconst (v := (1)) dX7_goes_304 (by decide) ?_
              refine pw_iadd dX7_goes_305 ?_
              refine q_pV (ty := .int) hf tyX7 tyX7_ok nmX7 rfl (by decide) w9_X7_goes_X7 (by decide +kernel) rfl (by decide +kernel) rfl rfl dX7_goes_306 (fun h47 hf => ?_)
              refine pw_goto (tgt := 177) dX7_goes_309 (by decide) ?_
              exact pw_lo (lle_s rfl (lle_n (lle_s rfl (lle_s rfl (lle_n lle_0))))) (ih _ _ _ _ hf)
        · refine pw_iconst (v := (1)) dX7_goes_229 (by decide) ?_
          refine pw_goto (tgt := 234) dX7_goes_230 (by decide) ?_
          refine pw_istore_n dX7_goes_234 (by decide) rfl ?_
          dsimp only [lset, lset2, clr]
          refine pw_aload_n dX7_goes_235 rfl ?_
          refine q_gI hf rfl (by decide) w9_X7_goes_X7 (by decide +kernel) dX7_goes_236 (fun x48 hf => ?_)
          refine pw_aload_n dX7_goes_239 rfl ?_
          refine q_gI hf rfl (by decide) w9_X7_goes_X7 (by decide +kernel) dX7_goes_240 (fun x49 hf => ?_)
          refine pw_isub dX7_goes_243 ?_
          refine pw_bipush (v := (6)) dX7_goes_244 (by decide) ?_
          refine q_icmp_ge (tgt := 269) hf dX7_goes_246 (by decide) (fun hf _ => ?_) (fun hf _ => ?_)
          · refine pw_aload_n dX7_goes_269 rfl ?_
            refine q_gI hf rfl (by decide) w9_X7_goes_X7 (by decide +kernel) dX7_goes_270 (fun x50 hf => ?_)
            refine pw_aload_n dX7_goes_273 rfl ?_
            refine q_gI hf rfl (by decide) w9_X7_goes_X7 (by decide +kernel) dX7_goes_274 (fun x51 hf => ?_)
            refine pw_isub dX7_goes_277 ?_
            refine pw_iconst (v := (2)) dX7_goes_278 (by decide) ?_
            refine q_icmp_ge (tgt := 299) hf dX7_goes_279 (by decide) (fun hf _ => ?_) (fun hf _ => ?_)
            · refine pw_aload_n dX7_goes_299 rfl ?_
              refine pw_dup dX7_goes_300 rfl ?_
              refine q_gI hf rfl (by decide) w9_X7_goes_X7 (by decide +kernel) dX7_goes_301 (fun x52 hf => ?_)
              refine pw_iconst (v := (1)) dX7_goes_304 (by decide) ?_
              refine pw_iadd dX7_goes_305 ?_
              refine q_pV (ty := .int) hf tyX7 tyX7_ok nmX7 rfl (by decide) w9_X7_goes_X7 (by decide +kernel) rfl (by decide +kernel) rfl rfl dX7_goes_306 (fun h53 hf => ?_)
              refine pw_goto (tgt := 177) dX7_goes_309 (by decide) ?_
              exact pw_lo (lle_s rfl (lle_n (lle_s rfl (lle_s rfl (lle_n lle_0))))) (ih _ _ _ _ hf)
            · refine pw_aload_n dX7_goes_282 rfl ?_
              refine pw_bipush (v := (10)) dX7_goes_283 (by decide) ?_
              refine pw_aload_n dX7_goes_285 rfl ?_
              refine q_gI hf rfl (by decide) w9_X7_goes_X7 (by decide +kernel) dX7_goes_286 (fun x54 hf => ?_)
              refine pw_imul dX7_goes_289 ?_
              refine pw_iload dX7_goes_290 rfl ?_
              refine pw_iadd dX7_goes_292 ?_
              refine pw_bipush (v := (48)) dX7_goes_293 (by decide) ?_
              refine pw_isub dX7_goes_295 ?_
              refine q_pV (ty := .int) hf tyX7 tyX7_ok nmX7 rfl (by decide) w9_X7_goes_X7 (by decide +kernel) rfl (by decide +kernel) rfl rfl dX7_goes_296 (fun h55 hf => ?_)
              refine pw_aload_n dX7_goes_299 rfl ?_
              refine pw_dup dX7_goes_300 rfl ?_
              refine q_gI hf rfl (by decide) w9_X7_goes_X7 (by decide +kernel) dX7_goes_301 (fun x56 hf => ?_)
              refine pw_iconst (v := (1)) dX7_goes_304 (by decide) ?_
              refine pw_iadd dX7_goes_305 ?_
              refine q_pV (ty := .int) hf tyX7 tyX7_ok nmX7 rfl (by decide) w9_X7_goes_X7 (by decide +kernel) rfl (by decide +kernel) rfl rfl dX7_goes_306 (fun h57 hf => ?_)
              refine pw_goto (tgt := 177) dX7_goes_309 (by decide) ?_
              exact pw_lo (lle_s rfl (lle_n (lle_s rfl (lle_s rfl (lle_n lle_0))))) (ih _ _ _ _ hf)
          · refine pw_aload_n dX7_goes_249 rfl ?_
            refine pw_ldc2 (v := (27)) dX7_goes_250 (by decide +kernel) ?_
            refine pw_aload_n dX7_goes_253 rfl ?_
            refine q_gL hf rfl (by decide) w9_X7_goes_X7 (by decide +kernel) dX7_goes_254 (fun x58 hf => ?_)
            refine pw_lmul dX7_goes_257 ?_
            refine pw_iload dX7_goes_258 rfl ?_
            refine pw_i2l dX7_goes_260 ?_
            refine pw_ladd dX7_goes_261 ?_
            refine pw_ldc2 (v := (96)) dX7_goes_262 (by decide +kernel) ?_
            refine pw_lsub dX7_goes_265 ?_
            refine q_pV (ty := .long) hf tyX7 tyX7_ok nmX7 rfl (by decide) w9_X7_goes_X7 (by decide +kernel) rfl (by decide +kernel) rfl rfl dX7_goes_266 (fun h59 hf => ?_)
            refine pw_aload_n dX7_goes_269 rfl ?_
            refine q_gI hf rfl (by decide) w9_X7_goes_X7 (by decide +kernel) dX7_goes_270 (fun x60 hf => ?_)
            refine pw_aload_n dX7_goes_273 rfl ?_
            refine q_gI hf rfl (by decide) w9_X7_goes_X7 (by decide +kernel) dX7_goes_274 (fun x61 hf => ?_)
            refine pw_isub dX7_goes_277 ?_
            refine pw_iconst (v := (2)) dX7_goes_278 (by decide) ?_
            refine q_icmp_ge (tgt := 299) hf dX7_goes_279 (by decide) (fun hf _ => ?_) (fun hf _ => ?_)
            · refine pw_aload_n dX7_goes_299 rfl ?_
              refine pw_dup dX7_goes_300 rfl ?_
              refine q_gI hf rfl (by decide) w9_X7_goes_X7 (by decide +kernel) dX7_goes_301 (fun x62 hf => ?_)
              refine pw_iconst (v := (1)) dX7_goes_304 (by decide) ?_
              refine pw_iadd dX7_goes_305 ?_
              refine q_pV (ty := .int) hf tyX7 tyX7_ok nmX7 rfl (by decide) w9_X7_goes_X7 (by decide +kernel) rfl (by decide +kernel) rfl rfl dX7_goes_306 (fun h63 hf => ?_)
              refine pw_goto (tgt := 177) dX7_goes_309 (by decide) ?_
              exact pw_lo (lle_s rfl (lle_n (lle_s rfl (lle_s rfl (lle_n lle_0))))) (ih _ _ _ _ hf)
            · refine pw_aload_n dX7_goes_282 rfl ?_
              refine pw_bipush (v := (10)) dX7_goes_283 (by decide) ?_
              refine pw_aload_n dX7_goes_285 rfl ?_
              refine q_gI hf rfl (by decide) w9_X7_goes_X7 (by decide +kernel) dX7_goes_286 (fun x64 hf => ?_)
              refine pw_imul dX7_goes_289 ?_
              refine pw_iload dX7_goes_290 rfl ?_
              refine pw_iadd dX7_goes_292 ?_
              refine pw_bipush (v := (48)) dX7_goes_293 (by decide) ?_
              refine pw_isub dX7_goes_295 ?_
              refine q_pV (ty := .int) hf tyX7 tyX7_ok nmX7 rfl (by decide) w9_X7_goes_X7 (by decide +kernel) rfl (by decide +kernel) rfl rfl dX7_goes_296 (fun h65 hf => ?_)
              refine pw_aload_n dX7_goes_299 rfl ?_
              refine pw_dup dX7_goes_300 rfl ?_
              refine q_gI hf rfl (by decide) w9_X7_goes_X7 (by decide +kernel) dX7_goes_301 (fun x66 hf => ?_)
              refine pw_iconst (v := (1)) dX7_goes_304 (by decide) ?_
              refine pw_iadd dX7_goes_305 ?_
              refine q_pV (ty := .int) hf tyX7 tyX7_ok nmX7 rfl (by decide) w9_X7_goes_X7 (by decide +kernel) rfl (by decide +kernel) rfl rfl dX7_goes_306 (fun h67 hf => ?_)
              refine pw_goto (tgt := 177) dX7_goes_309 (by decide) ?_
              exact pw_lo (lle_s rfl (lle_n (lle_s rfl (lle_s rfl (lle_n lle_0))))) (ih _ _ _ _ hf)
    · refine pw_aload_n dX7_goes_191 rfl ?_
      refine pw_aload_n dX7_goes_192 rfl ?_
      refine q_gI hf rfl (by decide) w9_X7_goes_X7 (by decide +kernel) dX7_goes_193 (fun x68 hf => ?_)
      refine q_callV_i (kc2 := 0) (ks2 := 0) (as := [.int x68]) (rest := []) hf (fun x9 e9 => t_X7_tapeAt e9) gX7_goes_X7_tapeAt rfl hd9_X7_tapeAt rfl rfl ⟨(by decide), by decide⟩ ⟨rfl, rfl⟩ (Nat.le_of_ble_eq_true rfl) dX7_goes_196 rfl (fun x69 hf => ?_)
      refine q_callS_i (kc2 := 0) (ks2 := 0) (as := [.int x69]) (rest := []) hf (fun x9 e9 => t_X7_isDigit e9) gX7_goes_X7_isDigit rfl hd9_X7_isDigit rfl ⟨(by decide), by decide⟩ ⟨rfl, rfl⟩ (Nat.le_of_ble_eq_true rfl) dX7_goes_199 rfl (fun x70 hf => ?_)
      refine q_if_eq (tgt := 312) hf dX7_goes_202 (by decide) (fun hf _ => ?_) (fun hf _ => ?_)
      · refine pw_aload_n dX7_goes_312 rfl ?_
        refine pw_iload_n dX7_goes_313 rfl ?_
        refine q_if_eq (tgt := 334) hf dX7_goes_314 (by decide) (fun hf _ => ?_) (fun hf _ => ?_)
        · refine pw_iconst (v := (1)) dX7_goes_334 (by decide) ?_
          refine pw_goto (tgt := 347) dX7_goes_335 (by decide) ?_
          refine q_pV (ty := .int) hf tyX7 tyX7_ok nmX7 rfl (by decide) w9_X7_goes_X7 (by decide +kernel) rfl (by decide +kernel) rfl rfl dX7_goes_347 (fun h71 hf => ?_)
          exact pw_vret rfl dX7_goes_350 ⟨rfl, Option.some.inj hf⟩
        · refine pw_iload_n dX7_goes_317 rfl ?_
          refine q_if_ne (tgt := 338) hf dX7_goes_318 (by decide) (fun hf _ => ?_) (fun hf _ => ?_)
          · refine pw_iload_n dX7_goes_338 rfl ?_
            refine q_if_eq (tgt := 346) hf dX7_goes_339 (by decide) (fun hf _ => ?_) (fun hf _ => ?_)
            · refine pw_iconst (v := (3)) dX7_goes_346 (by decide) ?_
              refine q_pV (ty := .int) hf tyX7 tyX7_ok nmX7 rfl (by decide) w9_X7_goes_X7 (by decide +kernel) rfl (by decide +kernel) rfl rfl dX7_goes_347 (fun h72 hf => ?_)
              exact pw_vret rfl dX7_goes_350 ⟨rfl, Option.some.inj hf⟩
            · refine pw_iconst (v := (2)) dX7_goes_342 (by decide) ?_
              refine pw_goto (tgt := 347) dX7_goes_343 (by decide) ?_
              refine q_pV (ty := .int) hf tyX7 tyX7_ok nmX7 rfl (by decide) w9_X7_goes_X7 (by decide +kernel) rfl (by decide +kernel) rfl rfl dX7_goes_347 (fun h73 hf => ?_)
              exact pw_vret rfl dX7_goes_350 ⟨rfl, Option.some.inj hf⟩
          · refine pw_aload_n dX7_goes_321 rfl ?_
            refine q_gI hf rfl (by decide) w9_X7_goes_X7 (by decide +kernel) dX7_goes_322 (fun x74 hf => ?_)
            refine pw_aload_n dX7_goes_325 rfl ?_
            refine q_gI hf rfl (by decide) w9_X7_goes_X7 (by decide +kernel) dX7_goes_326 (fun x75 hf => ?_)
            refine pw_isub dX7_goes_329 ?_
            refine pw_iconst (v := (2)) dX7_goes_330 (by decide) ?_
            refine q_icmp_le (tgt := 338) hf dX7_goes_331 (by decide) (fun hf _ => ?_) (fun hf _ => ?_)
            · refine pw_iload_n dX7_goes_338 rfl ?_
              refine q_if_eq (tgt := 346) hf dX7_goes_339 (by decide) (fun hf _ => ?_) (fun hf _ => ?_)
              · refine pw_iconst (v := (3)) dX7_goes_346 (by decide) ?_
                refine q_pV (ty := .int) hf tyX7 tyX7_ok nmX7 rfl (by decide) w9_X7_goes_X7 (by decide +kernel) rfl (by decide +kernel) rfl rfl dX7_goes_347 (fun h76 hf => ?_)
                exact pw_vret rfl dX7_goes_350 ⟨rfl, Option.some.inj hf⟩
              · refine pw_iconst (v := (2)) dX7_goes_342 (by decide) ?_
                refine pw_goto (tgt := 347) dX7_goes_343 (by decide) ?_
                refine q_pV (ty := .int) hf tyX7 tyX7_ok nmX7 rfl (by decide) w9_X7_goes_X7 (by decide +kernel) rfl (by decide +kernel) rfl rfl dX7_goes_347 (fun h77 hf => ?_)
                exact pw_vret rfl dX7_goes_350 ⟨rfl, Option.some.inj hf⟩
            · refine pw_iconst (v := (1)) dX7_goes_334 (by decide) ?_
              refine pw_goto (tgt := 347) dX7_goes_335 (by decide) ?_
              refine q_pV (ty := .int) hf tyX7 tyX7_ok nmX7 rfl (by decide) w9_X7_goes_X7 (by decide +kernel) rfl (by decide +kernel) rfl rfl dX7_goes_347 (fun h78 hf => ?_)
              exact pw_vret rfl dX7_goes_350 ⟨rfl, Option.some.inj hf⟩
      · refine pw_aload_n dX7_goes_205 rfl ?_
        refine q_gR hf rfl (by decide) w9_X7_goes_X7 (by decide +kernel) dX7_goes_206 (fun x79 hf => ?_)
        refine pw_aload_n dX7_goes_209 rfl ?_
        refine q_gI hf rfl (by decide) w9_X7_goes_X7 (by decide +kernel) dX7_goes_210 (fun x80 hf => ?_)
        refine q_iald hf dX7_goes_213 (fun x81 hf => ?_)
        refine pw_istore dX7_goes_214 (by decide) rfl ?_
        dsimp only [lset, lset2, clr]
        refine pw_iload_n dX7_goes_216 rfl ?_
        refine q_if_eq (tgt := 233) hf dX7_goes_217 (by decide) (fun hf _ => ?_) (fun hf _ => ?_)
        · refine pw_iconst (v := (0)) dX7_goes_233 (by decide) ?_
          refine pw_istore_n dX7_goes_234 (by decide) rfl ?_
          dsimp only [lset, lset2, clr]
          refine pw_aload_n dX7_goes_235 rfl ?_
          refine q_gI hf rfl (by decide) w9_X7_goes_X7 (by decide +kernel) dX7_goes_236 (fun x82 hf => ?_)
          refine pw_aload_n dX7_goes_239 rfl ?_
          refine q_gI hf rfl (by decide) w9_X7_goes_X7 (by decide +kernel) dX7_goes_240 (fun x83 hf => ?_)
          refine pw_isub dX7_goes_243 ?_
          refine pw_bipush (v := (6)) dX7_goes_244 (by decide) ?_
          refine q_icmp_ge (tgt := 269) hf dX7_goes_246 (by decide) (fun hf _ => ?_) (fun hf _ => ?_)
          · refine pw_aload_n dX7_goes_269 rfl ?_
            refine q_gI hf rfl (by decide) w9_X7_goes_X7 (by decide +kernel) dX7_goes_270 (fun x84 hf => ?_)
            refine pw_aload_n dX7_goes_273 rfl ?_
            refine q_gI hf rfl (by decide) w9_X7_goes_X7 (by decide +kernel) dX7_goes_274 (fun x85 hf => ?_)
            refine pw_isub dX7_goes_277 ?_
            refine pw_iconst (v := (2)) dX7_goes_278 (by decide) ?_
            refine q_icmp_ge (tgt := 299) hf dX7_goes_279 (by decide) (fun hf _ => ?_) (fun hf _ => ?_)
            · refine pw_aload_n dX7_goes_299 rfl ?_
              refine pw_dup dX7_goes_300 rfl ?_
              refine q_gI hf rfl (by decide) w9_X7_goes_X7 (by decide +kernel) dX7_goes_301 (fun x86 hf => ?_)
              refine pw_iconst (v := (1)) dX7_goes_304 (by decide) ?_
              refine pw_iadd dX7_goes_305 ?_
              refine q_pV (ty := .int) hf tyX7 tyX7_ok nmX7 rfl (by decide) w9_X7_goes_X7 (by decide +kernel) rfl (by decide +kernel) rfl rfl dX7_goes_306 (fun h87 hf => ?_)
              refine pw_goto (tgt := 177) dX7_goes_309 (by decide) ?_
              exact pw_lo (lle_s rfl (lle_n (lle_s rfl (lle_s rfl (lle_n lle_0))))) (ih _ _ _ _ hf)
            · refine pw_aload_n dX7_goes_282 rfl ?_
              refine pw_bipush (v := (10)) dX7_goes_283 (by decide) ?_
              refine pw_aload_n dX7_goes_285 rfl ?_
              refine q_gI hf rfl (by decide) w9_X7_goes_X7 (by decide +kernel) dX7_goes_286 (fun x88 hf => ?_)
              refine pw_imul dX7_goes_289 ?_
              refine pw_iload dX7_goes_290 rfl ?_
              refine pw_iadd dX7_goes_292 ?_
              refine pw_bipush (v := (48)) dX7_goes_293 (by decide) ?_
              refine pw_isub dX7_goes_295 ?_
              refine q_pV (ty := .int) hf tyX7 tyX7_ok nmX7 rfl (by decide) w9_X7_goes_X7 (by decide +kernel) rfl (by decide +kernel) rfl rfl dX7_goes_296 (fun h89 hf => ?_)
              refine pw_aload_n dX7_goes_299 rfl ?_
              refine pw_dup dX7_goes_300 rfl ?_
              refine q_gI hf rfl (by decide) w9_X7_goes_X7 (by decide +kernel) dX7_goes_301 (fun x90 hf => ?_)
              refine pw_iconst (v := (1)) dX7_goes_304 (by decide) ?_
              refine pw_iadd dX7_goes_305 ?_
              refine q_pV (ty := .int) hf tyX7 tyX7_ok nmX7 rfl (by decide) w9_X7_goes_X7 (by decide +kernel) rfl (by decide +kernel) rfl rfl dX7_goes_306 (fun h91 hf => ?_)
              refine pw_goto (tgt := 177) dX7_goes_309 (by decide) ?_
              exact pw_lo (lle_s rfl (lle_n (lle_s rfl (lle_s rfl (lle_n lle_0))))) (ih _ _ _ _ hf)
          · refine pw_aload_n dX7_goes_249 rfl ?_
            refine pw_ldc2 (v := (27)) dX7_goes_250 (by decide +kernel) ?_
            refine pw_aload_n dX7_goes_253 rfl ?_
            refine q_gL hf rfl (by decide) w9_X7_goes_X7 (by decide +kernel) dX7_goes_254 (fun x92 hf => ?_)
            refine pw_lmul dX7_goes_257 ?_
            refine pw_iload dX7_goes_258 rfl ?_
            refine pw_i2l dX7_goes_260 ?_
            refine pw_ladd dX7_goes_261 ?_
            refine pw_ldc2 (v := (96)) dX7_goes_262 (by decide +kernel) ?_
            refine pw_lsub dX7_goes_265 ?_
            refine q_pV (ty := .long) hf tyX7 tyX7_ok nmX7 rfl (by decide) w9_X7_goes_X7 (by decide +kernel) rfl (by decide +kernel) rfl rfl dX7_goes_266 (fun h93 hf => ?_)
            refine pw_aload_n dX7_goes_269 rfl ?_
            refine q_gI hf rfl (by decide) w9_X7_goes_X7 (by decide +kernel) dX7_goes_270 (fun x94 hf => ?_)
            refine pw_aload_n dX7_goes_273 rfl ?_
            refine q_gI hf rfl (by decide) w9_X7_goes_X7 (by decide +kernel) dX7_goes_274 (fun x95 hf => ?_)
            refine pw_isub dX7_goes_277 ?_
            refine pw_iconst (v := (2)) dX7_goes_278 (by decide) ?_
            refine q_icmp_ge (tgt := 299) hf dX7_goes_279 (by decide) (fun hf _ => ?_) (fun hf _ => ?_)
            · refine pw_aload_n dX7_goes_299 rfl ?_
              refine pw_dup dX7_goes_300 rfl ?_
              refine q_gI hf rfl (by decide) w9_X7_goes_X7 (by decide +kernel) dX7_goes_301 (fun x96 hf => ?_)
              refine pw_iconst (v := (1)) dX7_goes_304 (by decide) ?_
              refine pw_iadd dX7_goes_305 ?_
              refine q_pV (ty := .int) hf tyX7 tyX7_ok nmX7 rfl (by decide) w9_X7_goes_X7 (by decide +kernel) rfl (by decide +kernel) rfl rfl dX7_goes_306 (fun h97 hf => ?_)
              refine pw_goto (tgt := 177) dX7_goes_309 (by decide) ?_
              exact pw_lo (lle_s rfl (lle_n (lle_s rfl (lle_s rfl (lle_n lle_0))))) (ih _ _ _ _ hf)
            · refine pw_aload_n dX7_goes_282 rfl ?_
              refine pw_bipush (v := (10)) dX7_goes_283 (by decide) ?_
              refine pw_aload_n dX7_goes_285 rfl ?_
              refine q_gI hf rfl (by decide) w9_X7_goes_X7 (by decide +kernel) dX7_goes_286 (fun x98 hf => ?_)
              refine pw_imul dX7_goes_289 ?_
              refine pw_iload dX7_goes_290 rfl ?_
              refine pw_iadd dX7_goes_292 ?_
              refine pw_bipush (v := (48)) dX7_goes_293 (by decide) ?_
              refine pw_isub dX7_goes_295 ?_
              refine q_pV (ty := .int) hf tyX7 tyX7_ok nmX7 rfl (by decide) w9_X7_goes_X7 (by decide +kernel) rfl (by decide +kernel) rfl rfl dX7_goes_296 (fun h99 hf => ?_)
              refine pw_aload_n dX7_goes_299 rfl ?_
              refine pw_dup dX7_goes_300 rfl ?_
              refine q_gI hf rfl (by decide) w9_X7_goes_X7 (by decide +kernel) dX7_goes_301 (fun x100 hf => ?_)
              refine pw_iconst (v := (1)) dX7_goes_304 (by decide) ?_
              refine pw_iadd dX7_goes_305 ?_
              refine q_pV (ty := .int) hf tyX7 tyX7_ok nmX7 rfl (by decide) w9_X7_goes_X7 (by decide +kernel) rfl (by decide +kernel) rfl rfl dX7_goes_306 (fun h101 hf => ?_)
              refine pw_goto (tgt := 177) dX7_goes_309 (by decide) ?_
              exact pw_lo (lle_s rfl (lle_n (lle_s rfl (lle_s rfl (lle_n lle_0))))) (ih _ _ _ _ hf)
        · refine pw_iload dX7_goes_220 rfl ?_
          refine q_callS_i (kc2 := 0) (ks2 := 0) (as := [.int x81]) (rest := []) hf (fun x9 e9 => t_X7_isLetter e9) gX7_goes_X7_isLetter rfl hd9_X7_isLetter rfl ⟨(by decide), by decide⟩ ⟨rfl, rfl⟩ (Nat.le_of_ble_eq_true rfl) dX7_goes_222 rfl (fun x102 hf => ?_)
          refine pw_iload_n dX7_goes_225 rfl ?_
          refine q_icmp_ne (tgt := 233) hf dX7_goes_226 (by decide) (fun hf _ => ?_) (fun hf _ => ?_)
          · refine pw_iconst (v := (0)) dX7_goes_233 (by decide) ?_
            refine pw_istore_n dX7_goes_234 (by decide) rfl ?_
            dsimp only [lset, lset2, clr]
            refine pw_aload_n dX7_goes_235 rfl ?_
            refine q_gI hf rfl (by decide) w9_X7_goes_X7 (by decide +kernel) dX7_goes_236 (fun x103 hf => ?_)
            refine pw_aload_n dX7_goes_239 rfl ?_
            refine q_gI hf rfl (by decide) w9_X7_goes_X7 (by decide +kernel) dX7_goes_240 (fun x104 hf => ?_)
            refine pw_isub dX7_goes_243 ?_
            refine pw_bipush (v := (6)) dX7_goes_244 (by decide) ?_
            refine q_icmp_ge (tgt := 269) hf dX7_goes_246 (by decide) (fun hf _ => ?_) (fun hf _ => ?_)
            · refine pw_aload_n dX7_goes_269 rfl ?_
              refine q_gI hf rfl (by decide) w9_X7_goes_X7 (by decide +kernel) dX7_goes_270 (fun x105 hf => ?_)
              refine pw_aload_n dX7_goes_273 rfl ?_
              refine q_gI hf rfl (by decide) w9_X7_goes_X7 (by decide +kernel) dX7_goes_274 (fun x106 hf => ?_)
              refine pw_isub dX7_goes_277 ?_
              refine pw_iconst (v := (2)) dX7_goes_278 (by decide) ?_
              refine q_icmp_ge (tgt := 299) hf dX7_goes_279 (by decide) (fun hf _ => ?_) (fun hf _ => ?_)
              · refine pw_aload_n dX7_goes_299 rfl ?_
                refine pw_dup dX7_goes_300 rfl ?_
                refine q_gI hf rfl (by decide) w9_X7_goes_X7 (by decide +kernel) dX7_goes_301 (fun x107 hf => ?_)
                refine pw_iconst (v := (1)) dX7_goes_304 (by decide) ?_
                refine pw_iadd dX7_goes_305 ?_
                refine q_pV (ty := .int) hf tyX7 tyX7_ok nmX7 rfl (by decide) w9_X7_goes_X7 (by decide +kernel) rfl (by decide +kernel) rfl rfl dX7_goes_306 (fun h108 hf => ?_)
                refine pw_goto (tgt := 177) dX7_goes_309 (by decide) ?_
                exact pw_lo (lle_s rfl (lle_n (lle_s rfl (lle_s rfl (lle_n lle_0))))) (ih _ _ _ _ hf)
              · refine pw_aload_n dX7_goes_282 rfl ?_
                refine pw_bipush (v := (10)) dX7_goes_283 (by decide) ?_
                refine pw_aload_n dX7_goes_285 rfl ?_
                refine q_gI hf rfl (by decide) w9_X7_goes_X7 (by decide +kernel) dX7_goes_286 (fun x109 hf => ?_)
                refine pw_imul dX7_goes_289 ?_
                refine pw_iload dX7_goes_290 rfl ?_
                refine pw_iadd dX7_goes_292 ?_
                refine pw_bipush (v := (48)) dX7_goes_293 (by decide) ?_
                refine pw_isub dX7_goes_295 ?_
                refine q_pV (ty := .int) hf tyX7 tyX7_ok nmX7 rfl (by decide) w9_X7_goes_X7 (by decide +kernel) rfl (by decide +kernel) rfl rfl dX7_goes_296 (fun h110 hf => ?_)
                refine pw_aload_n dX7_goes_299 rfl ?_
                refine pw_dup dX7_goes_300 rfl ?_
                refine q_gI hf rfl (by decide) w9_X7_goes_X7 (by decide +kernel) dX7_goes_301 (fun x111 hf => ?_)
                refine pw_iconst (v := (1)) dX7_goes_304 (by decide) ?_
                refine pw_iadd dX7_goes_305 ?_
                refine q_pV (ty := .int) hf tyX7 tyX7_ok nmX7 rfl (by decide) w9_X7_goes_X7 (by decide +kernel) rfl (by decide +kernel) rfl rfl dX7_goes_306 (fun h112 hf => ?_)
                refine pw_goto (tgt := 177) dX7_goes_309 (by decide) ?_
                exact pw_lo (lle_s rfl (lle_n (lle_s rfl (lle_s rfl (lle_n lle_0))))) (ih _ _ _ _ hf)
            · refine pw_aload_n dX7_goes_249 rfl ?_
              refine pw_ldc2 (v := (27)) dX7_goes_250 (by decide +kernel) ?_
              refine pw_aload_n dX7_goes_253 rfl ?_
              refine q_gL hf rfl (by decide) w9_X7_goes_X7 (by decide +kernel) dX7_goes_254 (fun x113 hf => ?_)
              refine pw_lmul dX7_goes_257 ?_
              refine pw_iload dX7_goes_258 rfl ?_
              refine pw_i2l dX7_goes_260 ?_
              refine pw_ladd dX7_goes_261 ?_
              refine pw_ldc2 (v := (96)) dX7_goes_262 (by decide +kernel) ?_
              refine pw_lsub dX7_goes_265 ?_
              refine q_pV (ty := .long) hf tyX7 tyX7_ok nmX7 rfl (by decide) w9_X7_goes_X7 (by decide +kernel) rfl (by decide +kernel) rfl rfl dX7_goes_266 (fun h114 hf => ?_)
              refine pw_aload_n dX7_goes_269 rfl ?_
              refine q_gI hf rfl (by decide) w9_X7_goes_X7 (by decide +kernel) dX7_goes_270 (fun x115 hf => ?_)
              refine pw_aload_n dX7_goes_273 rfl ?_
              refine q_gI hf rfl (by decide) w9_X7_goes_X7 (by decide +kernel) dX7_goes_274 (fun x116 hf => ?_)
              refine pw_isub dX7_goes_277 ?_
              refine pw_iconst (v := (2)) dX7_goes_278 (by decide) ?_
              refine q_icmp_ge (tgt := 299) hf dX7_goes_279 (by decide) (fun hf _ => ?_) (fun hf _ => ?_)
              · refine pw_aload_n dX7_goes_299 rfl ?_
                refine pw_dup dX7_goes_300 rfl ?_
                refine q_gI hf rfl (by decide) w9_X7_goes_X7 (by decide +kernel) dX7_goes_301 (fun x117 hf => ?_)
                refine pw_iconst (v := (1)) dX7_goes_304 (by decide) ?_
                refine pw_iadd dX7_goes_305 ?_
                refine q_pV (ty := .int) hf tyX7 tyX7_ok nmX7 rfl (by decide) w9_X7_goes_X7 (by decide +kernel) rfl (by decide +kernel) rfl rfl dX7_goes_306 (fun h118 hf => ?_)
                refine pw_goto (tgt := 177) dX7_goes_309 (by decide) ?_
                exact pw_lo (lle_s rfl (lle_n (lle_s rfl (lle_s rfl (lle_n lle_0))))) (ih _ _ _ _ hf)
              · refine pw_aload_n dX7_goes_282 rfl ?_
                refine pw_bipush (v := (10)) dX7_goes_283 (by decide) ?_
                refine pw_aload_n dX7_goes_285 rfl ?_
                refine q_gI hf rfl (by decide) w9_X7_goes_X7 (by decide +kernel) dX7_goes_286 (fun x119 hf => ?_)
                refine pw_imul dX7_goes_289 ?_
                refine pw_iload dX7_goes_290 rfl ?_
                refine pw_iadd dX7_goes_292 ?_
                refine pw_bipush (v := (48)) dX7_goes_293 (by decide) ?_
                refine pw_isub dX7_goes_295 ?_
                refine q_pV (ty := .int) hf tyX7 tyX7_ok nmX7 rfl (by decide) w9_X7_goes_X7 (by decide +kernel) rfl (by decide +kernel) rfl rfl dX7_goes_296 (fun h120 hf => ?_)
                refine pw_aload_n dX7_goes_299 rfl ?_
                refine pw_dup dX7_goes_300 rfl ?_
                refine q_gI hf rfl (by decide) w9_X7_goes_X7 (by decide +kernel) dX7_goes_301 (fun x121 hf => ?_)
                refine pw_iconst (v := (1)) dX7_goes_304 (by decide) ?_
                refine pw_iadd dX7_goes_305 ?_
                refine q_pV (ty := .int) hf tyX7 tyX7_ok nmX7 rfl (by decide) w9_X7_goes_X7 (by decide +kernel) rfl (by decide +kernel) rfl rfl dX7_goes_306 (fun h122 hf => ?_)
                refine pw_goto (tgt := 177) dX7_goes_309 (by decide) ?_
                exact pw_lo (lle_s rfl (lle_n (lle_s rfl (lle_s rfl (lle_n lle_0))))) (ih _ _ _ _ hf)
          · refine pw_iconst (v := (1)) dX7_goes_229 (by decide) ?_
            refine pw_goto (tgt := 234) dX7_goes_230 (by decide) ?_
            refine pw_istore_n dX7_goes_234 (by decide) rfl ?_
            dsimp only [lset, lset2, clr]
            refine pw_aload_n dX7_goes_235 rfl ?_
            refine q_gI hf rfl (by decide) w9_X7_goes_X7 (by decide +kernel) dX7_goes_236 (fun x123 hf => ?_)
            refine pw_aload_n dX7_goes_239 rfl ?_
            refine q_gI hf rfl (by decide) w9_X7_goes_X7 (by decide +kernel) dX7_goes_240 (fun x124 hf => ?_)
            refine pw_isub dX7_goes_243 ?_
            refine pw_bipush (v := (6)) dX7_goes_244 (by decide) ?_
            refine q_icmp_ge (tgt := 269) hf dX7_goes_246 (by decide) (fun hf _ => ?_) (fun hf _ => ?_)
            · refine pw_aload_n dX7_goes_269 rfl ?_
              refine q_gI hf rfl (by decide) w9_X7_goes_X7 (by decide +kernel) dX7_goes_270 (fun x125 hf => ?_)
              refine pw_aload_n dX7_goes_273 rfl ?_
              refine q_gI hf rfl (by decide) w9_X7_goes_X7 (by decide +kernel) dX7_goes_274 (fun x126 hf => ?_)
              refine pw_isub dX7_goes_277 ?_
              refine pw_iconst (v := (2)) dX7_goes_278 (by decide) ?_
              refine q_icmp_ge (tgt := 299) hf dX7_goes_279 (by decide) (fun hf _ => ?_) (fun hf _ => ?_)
              · refine pw_aload_n dX7_goes_299 rfl ?_
                refine pw_dup dX7_goes_300 rfl ?_
                refine q_gI hf rfl (by decide) w9_X7_goes_X7 (by decide +kernel) dX7_goes_301 (fun x127 hf => ?_)
                refine pw_iconst (v := (1)) dX7_goes_304 (by decide) ?_
                refine pw_iadd dX7_goes_305 ?_
                refine q_pV (ty := .int) hf tyX7 tyX7_ok nmX7 rfl (by decide) w9_X7_goes_X7 (by decide +kernel) rfl (by decide +kernel) rfl rfl dX7_goes_306 (fun h128 hf => ?_)
                refine pw_goto (tgt := 177) dX7_goes_309 (by decide) ?_
                exact pw_lo (lle_s rfl (lle_n (lle_s rfl (lle_s rfl (lle_n lle_0))))) (ih _ _ _ _ hf)
              · refine pw_aload_n dX7_goes_282 rfl ?_
                refine pw_bipush (v := (10)) dX7_goes_283 (by decide) ?_
                refine pw_aload_n dX7_goes_285 rfl ?_
                refine q_gI hf rfl (by decide) w9_X7_goes_X7 (by decide +kernel) dX7_goes_286 (fun x129 hf => ?_)
                refine pw_imul dX7_goes_289 ?_
                refine pw_iload dX7_goes_290 rfl ?_
                refine pw_iadd dX7_goes_292 ?_
                refine pw_bipush (v := (48)) dX7_goes_293 (by decide) ?_
                refine pw_isub dX7_goes_295 ?_
                refine q_pV (ty := .int) hf tyX7 tyX7_ok nmX7 rfl (by decide) w9_X7_goes_X7 (by decide +kernel) rfl (by decide +kernel) rfl rfl dX7_goes_296 (fun h130 hf => ?_)
                refine pw_aload_n dX7_goes_299 rfl ?_
                refine pw_dup dX7_goes_300 rfl ?_
                refine q_gI hf rfl (by decide) w9_X7_goes_X7 (by decide +kernel) dX7_goes_301 (fun x131 hf => ?_)
                refine pw_iconst (v := (1)) dX7_goes_304 (by decide) ?_
                refine pw_iadd dX7_goes_305 ?_
                refine q_pV (ty := .int) hf tyX7 tyX7_ok nmX7 rfl (by decide) w9_X7_goes_X7 (by decide +kernel) rfl (by decide +kernel) rfl rfl dX7_goes_306 (fun h132 hf => ?_)
                refine pw_goto (tgt := 177) dX7_goes_309 (by decide) ?_
                exact pw_lo (lle_s rfl (lle_n (lle_s rfl (lle_s rfl (lle_n lle_0))))) (ih _ _ _ _ hf)
            · refine pw_aload_n dX7_goes_249 rfl ?_
              refine pw_ldc2 (v := (27)) dX7_goes_250 (by decide +kernel) ?_
              refine pw_aload_n dX7_goes_253 rfl ?_
              refine q_gL hf rfl (by decide) w9_X7_goes_X7 (by decide +kernel) dX7_goes_254 (fun x133 hf => ?_)
              refine pw_lmul dX7_goes_257 ?_
              refine pw_iload dX7_goes_258 rfl ?_
              refine pw_i2l dX7_goes_260 ?_
              refine pw_ladd dX7_goes_261 ?_
              refine pw_ldc2 (v := (96)) dX7_goes_262 (by decide +kernel) ?_
              refine pw_lsub dX7_goes_265 ?_
              refine q_pV (ty := .long) hf tyX7 tyX7_ok nmX7 rfl (by decide) w9_X7_goes_X7 (by decide +kernel) rfl (by decide +kernel) rfl rfl dX7_goes_266 (fun h134 hf => ?_)
              refine pw_aload_n dX7_goes_269 rfl ?_
              refine q_gI hf rfl (by decide) w9_X7_goes_X7 (by decide +kernel) dX7_goes_270 (fun x135 hf => ?_)
              refine pw_aload_n dX7_goes_273 rfl ?_
              refine q_gI hf rfl (by decide) w9_X7_goes_X7 (by decide +kernel) dX7_goes_274 (fun x136 hf => ?_)
              refine pw_isub dX7_goes_277 ?_
              refine pw_iconst (v := (2)) dX7_goes_278 (by decide) ?_
              refine q_icmp_ge (tgt := 299) hf dX7_goes_279 (by decide) (fun hf _ => ?_) (fun hf _ => ?_)
              · refine pw_aload_n dX7_goes_299 rfl ?_
                refine pw_dup dX7_goes_300 rfl ?_
                refine q_gI hf rfl (by decide) w9_X7_goes_X7 (by decide +kernel) dX7_goes_301 (fun x137 hf => ?_)
                refine pw_iconst (v := (1)) dX7_goes_304 (by decide) ?_
                refine pw_iadd dX7_goes_305 ?_
                refine q_pV (ty := .int) hf tyX7 tyX7_ok nmX7 rfl (by decide) w9_X7_goes_X7 (by decide +kernel) rfl (by decide +kernel) rfl rfl dX7_goes_306 (fun h138 hf => ?_)
                refine pw_goto (tgt := 177) dX7_goes_309 (by decide) ?_
                exact pw_lo (lle_s rfl (lle_n (lle_s rfl (lle_s rfl (lle_n lle_0))))) (ih _ _ _ _ hf)
              · refine pw_aload_n dX7_goes_282 rfl ?_
                refine pw_bipush (v := (10)) dX7_goes_283 (by decide) ?_
                refine pw_aload_n dX7_goes_285 rfl ?_
                refine q_gI hf rfl (by decide) w9_X7_goes_X7 (by decide +kernel) dX7_goes_286 (fun x139 hf => ?_)
                refine pw_imul dX7_goes_289 ?_
                refine pw_iload dX7_goes_290 rfl ?_
                refine pw_iadd dX7_goes_292 ?_
                refine pw_bipush (v := (48)) dX7_goes_293 (by decide) ?_
                refine pw_isub dX7_goes_295 ?_
                refine q_pV (ty := .int) hf tyX7 tyX7_ok nmX7 rfl (by decide) w9_X7_goes_X7 (by decide +kernel) rfl (by decide +kernel) rfl rfl dX7_goes_296 (fun h140 hf => ?_)
                refine pw_aload_n dX7_goes_299 rfl ?_
                refine pw_dup dX7_goes_300 rfl ?_
                refine q_gI hf rfl (by decide) w9_X7_goes_X7 (by decide +kernel) dX7_goes_301 (fun x141 hf => ?_)
                refine pw_iconst (v := (1)) dX7_goes_304 (by decide) ?_
                refine pw_iadd dX7_goes_305 ?_
                refine q_pV (ty := .int) hf tyX7 tyX7_ok nmX7 rfl (by decide) w9_X7_goes_X7 (by decide +kernel) rfl (by decide +kernel) rfl rfl dX7_goes_306 (fun h142 hf => ?_)
                refine pw_goto (tgt := 177) dX7_goes_309 (by decide) ?_
                exact pw_lo (lle_s rfl (lle_n (lle_s rfl (lle_s rfl (lle_n lle_0))))) (ih _ _ _ _ hf)
def f_X7_goes_0 : Nat → Nat → Hp → Option Hp
  | 0, _, _ => none
  | n + 1, v0, h => (gI h v0 7 4).bind fun x1 => (gI h v0 7 3).bind fun x2 => if x2 ≤ x1 then ((gI h v0 7 4).bind fun x3 => (pV h v0 7 5 (.int x3)).bind fun h4 => (gI h4 v0 7 3).bind fun x5 => if x5 ≤ (300 : Int32) then ((gI h4 v0 7 4).bind fun x6 => (gI h4 v0 7 3).bind fun x7 => if x6 < x7 then ((gR h4 v0 7 1).bind fun x8 => (gI h4 v0 7 4).bind fun x9 => (aI h4 0 x8 x9).bind fun x10 => (f_X7_isLetter h4 x10).bind fun x11 => if x11 = 0 then ((f_X7_isDigit h4 x10).bind fun x15 => if x15 = 0 then (if x10 = (59 : Int32) then ((pV h4 v0 7 6 (.int (4 : Int32))).bind fun h22 => (gI h22 v0 7 4).bind fun x23 => (pV h22 v0 7 4 (.int (x23 + (1 : Int32)))).bind fun h24 => some h24) else ((pV h4 v0 7 6 (.int (1 : Int32))).bind fun h19 => (gI h19 v0 7 4).bind fun x20 => (pV h19 v0 7 4 (.int (x20 + (1 : Int32)))).bind fun h21 => some h21)) else ((f_X7_isLetter h4 x10).bind fun x16 => (pV h4 v0 7 10 (.long (0 : Int64))).bind fun h17 => (pV h17 v0 7 7 (.int (0 : Int32))).bind fun h18 => f_X7_goes_177 4096 v0 x16 (1 : Int32) h18)) else ((f_X7_isLetter h4 x10).bind fun x12 => (pV h4 v0 7 10 (.long (0 : Int64))).bind fun h13 => (pV h13 v0 7 7 (.int (0 : Int32))).bind fun h14 => f_X7_goes_177 4096 v0 x12 (1 : Int32) h14)) else ((pV h4 v0 7 6 (.int (0 : Int32))).bind fun h25 => some h25)) else ((gI h4 v0 7 5).bind fun x26 => if x26 < (300 : Int32) then ((gI h4 v0 7 4).bind fun x27 => (gI h4 v0 7 3).bind fun x28 => if x27 < x28 then ((gR h4 v0 7 1).bind fun x29 => (gI h4 v0 7 4).bind fun x30 => (aI h4 0 x29 x30).bind fun x31 => (f_X7_isLetter h4 x31).bind fun x32 => if x32 = 0 then ((f_X7_isDigit h4 x31).bind fun x36 => if x36 = 0 then (if x31 = (59 : Int32) then ((pV h4 v0 7 6 (.int (4 : Int32))).bind fun h43 => (gI h43 v0 7 4).bind fun x44 => (pV h43 v0 7 4 (.int (x44 + (1 : Int32)))).bind fun h45 => some h45) else ((pV h4 v0 7 6 (.int (1 : Int32))).bind fun h40 => (gI h40 v0 7 4).bind fun x41 => (pV h40 v0 7 4 (.int (x41 + (1 : Int32)))).bind fun h42 => some h42)) else ((f_X7_isLetter h4 x31).bind fun x37 => (pV h4 v0 7 10 (.long (0 : Int64))).bind fun h38 => (pV h38 v0 7 7 (.int (0 : Int32))).bind fun h39 => f_X7_goes_177 4096 v0 x37 (1 : Int32) h39)) else ((f_X7_isLetter h4 x31).bind fun x33 => (pV h4 v0 7 10 (.long (0 : Int64))).bind fun h34 => (pV h34 v0 7 7 (.int (0 : Int32))).bind fun h35 => f_X7_goes_177 4096 v0 x33 (1 : Int32) h35)) else ((pV h4 v0 7 6 (.int (0 : Int32))).bind fun h46 => some h46)) else ((pV h4 v0 7 5 (.int (300 : Int32))).bind fun h47 => (pV h47 v0 7 6 (.int (1 : Int32))).bind fun h48 => some h48))) else ((gR h v0 7 1).bind fun x49 => (gI h v0 7 4).bind fun x50 => (aI h 0 x49 x50).bind fun x51 => if x51 = (32 : Int32) then ((gI h v0 7 4).bind fun x52 => (pV h v0 7 4 (.int (x52 + (1 : Int32)))).bind fun h53 => f_X7_goes_0 n v0 h53) else ((gR h v0 7 1).bind fun x54 => (gI h v0 7 4).bind fun x55 => (aI h 0 x54 x55).bind fun x56 => if x56 = (10 : Int32) then ((gI h v0 7 4).bind fun x103 => (pV h v0 7 4 (.int (x103 + (1 : Int32)))).bind fun h104 => f_X7_goes_0 n v0 h104) else ((gI h v0 7 4).bind fun x57 => (pV h v0 7 5 (.int x57)).bind fun h58 => (gI h58 v0 7 3).bind fun x59 => if x59 ≤ (300 : Int32) then ((gI h58 v0 7 4).bind fun x60 => (gI h58 v0 7 3).bind fun x61 => if x60 < x61 then ((gR h58 v0 7 1).bind fun x62 => (gI h58 v0 7 4).bind fun x63 => (aI h58 0 x62 x63).bind fun x64 => (f_X7_isLetter h58 x64).bind fun x65 => if x65 = 0 then ((f_X7_isDigit h58 x64).bind fun x69 => if x69 = 0 then (if x64 = (59 : Int32) then ((pV h58 v0 7 6 (.int (4 : Int32))).bind fun h76 => (gI h76 v0 7 4).bind fun x77 => (pV h76 v0 7 4 (.int (x77 + (1 : Int32)))).bind fun h78 => some h78) else ((pV h58 v0 7 6 (.int (1 : Int32))).bind fun h73 => (gI h73 v0 7 4).bind fun x74 => (pV h73 v0 7 4 (.int (x74 + (1 : Int32)))).bind fun h75 => some h75)) else ((f_X7_isLetter h58 x64).bind fun x70 => (pV h58 v0 7 10 (.long (0 : Int64))).bind fun h71 => (pV h71 v0 7 7 (.int (0 : Int32))).bind fun h72 => f_X7_goes_177 4096 v0 x70 (1 : Int32) h72)) else ((f_X7_isLetter h58 x64).bind fun x66 => (pV h58 v0 7 10 (.long (0 : Int64))).bind fun h67 => (pV h67 v0 7 7 (.int (0 : Int32))).bind fun h68 => f_X7_goes_177 4096 v0 x66 (1 : Int32) h68)) else ((pV h58 v0 7 6 (.int (0 : Int32))).bind fun h79 => some h79)) else ((gI h58 v0 7 5).bind fun x80 => if x80 < (300 : Int32) then ((gI h58 v0 7 4).bind fun x81 => (gI h58 v0 7 3).bind fun x82 => if x81 < x82 then ((gR h58 v0 7 1).bind fun x83 => (gI h58 v0 7 4).bind fun x84 => (aI h58 0 x83 x84).bind fun x85 => (f_X7_isLetter h58 x85).bind fun x86 => if x86 = 0 then ((f_X7_isDigit h58 x85).bind fun x90 => if x90 = 0 then (if x85 = (59 : Int32) then ((pV h58 v0 7 6 (.int (4 : Int32))).bind fun h97 => (gI h97 v0 7 4).bind fun x98 => (pV h97 v0 7 4 (.int (x98 + (1 : Int32)))).bind fun h99 => some h99) else ((pV h58 v0 7 6 (.int (1 : Int32))).bind fun h94 => (gI h94 v0 7 4).bind fun x95 => (pV h94 v0 7 4 (.int (x95 + (1 : Int32)))).bind fun h96 => some h96)) else ((f_X7_isLetter h58 x85).bind fun x91 => (pV h58 v0 7 10 (.long (0 : Int64))).bind fun h92 => (pV h92 v0 7 7 (.int (0 : Int32))).bind fun h93 => f_X7_goes_177 4096 v0 x91 (1 : Int32) h93)) else ((f_X7_isLetter h58 x85).bind fun x87 => (pV h58 v0 7 10 (.long (0 : Int64))).bind fun h88 => (pV h88 v0 7 7 (.int (0 : Int32))).bind fun h89 => f_X7_goes_177 4096 v0 x87 (1 : Int32) h89)) else ((pV h58 v0 7 6 (.int (0 : Int32))).bind fun h100 => some h100)) else ((pV h58 v0 7 5 (.int (300 : Int32))).bind fun h101 => (pV h101 v0 7 6 (.int (1 : Int32))).bind fun h102 => some h102)))))
set_option maxHeartbeats 4000000 in
set_option maxRecDepth 100000 in
theorem w_X7_goes_0 {g : GT} {l : Launch} {r : Hp} : ∀ (n : Nat) (v0 : Nat) (h : Hp), f_X7_goes_0 n v0 h = some r → PW g l m_X7_goes 2 0 0 0 [some (.ref v0), none, none, none, none] [] h (fun r9 h9 => r9 = none ∧ h9 = r) := by
  intro n
  induction n with
  | zero => intro v0 h hf; cases hf
  | succ n ih =>
    intro v0 h hf
    rw [f_X7_goes_0] at hf
    refine pw_aload_n dX7_goes_0 rfl ?_
    refine q_gI hf rfl (by decide) w9_X7_goes_X7 (by decide +kernel) dX7_goes_1 (fun x1 hf => ?_)
    refine pw_aload_n dX7_goes_4 rfl ?_
    refine q_gI hf rfl (by decide) w9_X7_goes_X7 (by decide +kernel) dX7_goes_5 (fun x2 hf => ?_)
    refine q_icmp_ge (tgt := 52) hf dX7_goes_8 (by decide) (fun hf _ => ?_) (fun hf _ => ?_)
    · refine pw_aload_n dX7_goes_52 rfl ?_
      refine pw_aload_n dX7_goes_53 rfl ?_
      refine q_gI hf rfl (by decide) w9_X7_goes_X7 (by decide +kernel) dX7_goes_54 (fun x3 hf => ?_)
      refine q_pV (ty := .int) hf tyX7 tyX7_ok nmX7 rfl (by decide) w9_X7_goes_X7 (by decide +kernel) rfl (by decide +kernel) rfl rfl dX7_goes_57 (fun h4 hf => ?_)
      refine pw_aload_n dX7_goes_60 rfl ?_
      refine q_gI hf rfl (by decide) w9_X7_goes_X7 (by decide +kernel) dX7_goes_61 (fun x5 hf => ?_)
      refine pw_sipush (v := (300)) dX7_goes_64 (by decide) ?_
      refine q_icmp_le (tgt := 93) hf dX7_goes_67 (by decide) (fun hf _ => ?_) (fun hf _ => ?_)
      · refine pw_aload_n dX7_goes_93 rfl ?_
        refine q_gI hf rfl (by decide) w9_X7_goes_X7 (by decide +kernel) dX7_goes_94 (fun x6 hf => ?_)
        refine pw_aload_n dX7_goes_97 rfl ?_
        refine q_gI hf rfl (by decide) w9_X7_goes_X7 (by decide +kernel) dX7_goes_98 (fun x7 hf => ?_)
        refine q_icmp_lt (tgt := 110) hf dX7_goes_101 (by decide) (fun hf _ => ?_) (fun hf _ => ?_)
        · refine pw_aload_n dX7_goes_110 rfl ?_
          refine q_gR hf rfl (by decide) w9_X7_goes_X7 (by decide +kernel) dX7_goes_111 (fun x8 hf => ?_)
          refine pw_aload_n dX7_goes_114 rfl ?_
          refine q_gI hf rfl (by decide) w9_X7_goes_X7 (by decide +kernel) dX7_goes_115 (fun x9 hf => ?_)
          refine q_iald hf dX7_goes_118 (fun x10 hf => ?_)
          refine pw_istore_n dX7_goes_119 (by decide) rfl ?_
          dsimp only [lset, lset2, clr]
          refine pw_iload_n dX7_goes_120 rfl ?_
          refine q_callS_i (kc2 := 0) (ks2 := 0) (as := [.int x10]) (rest := []) hf (fun x9 e9 => t_X7_isLetter e9) gX7_goes_X7_isLetter rfl hd9_X7_isLetter rfl ⟨(by decide), by decide⟩ ⟨rfl, rfl⟩ (Nat.le_of_ble_eq_true rfl) dX7_goes_121 rfl (fun x11 hf => ?_)
          refine q_if_ne (tgt := 160) hf dX7_goes_124 (by decide) (fun hf _ => ?_) (fun hf _ => ?_)
          · refine pw_iload_n dX7_goes_160 rfl ?_
            refine q_callS_i (kc2 := 0) (ks2 := 0) (as := [.int x10]) (rest := []) hf (fun x9 e9 => t_X7_isLetter e9) gX7_goes_X7_isLetter rfl hd9_X7_isLetter rfl ⟨(by decide), by decide⟩ ⟨rfl, rfl⟩ (Nat.le_of_ble_eq_true rfl) dX7_goes_161 rfl (fun x12 hf => ?_)
            refine pw_istore_n dX7_goes_164 (by decide) rfl ?_
            dsimp only [lset, lset2, clr]
            refine pw_iconst (v := (1)) dX7_goes_165 (by decide) ?_
            refine pw_istore_n dX7_goes_166 (by decide) rfl ?_
            dsimp only [lset, lset2, clr]
            refine pw_aload_n dX7_goes_167 rfl ?_
            refine pw_lconst (v := (0)) dX7_goes_168 (by decide) ?_
            refine q_pV (ty := .long) hf tyX7 tyX7_ok nmX7 rfl (by decide) w9_X7_goes_X7 (by decide +kernel) rfl (by decide +kernel) rfl rfl dX7_goes_169 (fun h13 hf => ?_)
            refine pw_aload_n dX7_goes_172 rfl ?_
            refine pw_iconst (v := (0)) dX7_goes_173 (by decide) ?_
            refine q_pV (ty := .int) hf tyX7 tyX7_ok nmX7 rfl (by decide) w9_X7_goes_X7 (by decide +kernel) rfl (by decide +kernel) rfl rfl dX7_goes_174 (fun h14 hf => ?_)
            exact pw_lo (lle_s rfl (lle_n (lle_s rfl (lle_s rfl (lle_n lle_0))))) (w_X7_goes_177 4096 _ _ _ _ hf)
          · refine pw_iload_n dX7_goes_127 rfl ?_
            refine q_callS_i (kc2 := 0) (ks2 := 0) (as := [.int x10]) (rest := []) hf (fun x9 e9 => t_X7_isDigit e9) gX7_goes_X7_isDigit rfl hd9_X7_isDigit rfl ⟨(by decide), by decide⟩ ⟨rfl, rfl⟩ (Nat.le_of_ble_eq_true rfl) dX7_goes_128 rfl (fun x15 hf => ?_)
            refine q_if_ne (tgt := 160) hf dX7_goes_131 (by decide) (fun hf _ => ?_) (fun hf _ => ?_)
            · refine pw_iload_n dX7_goes_160 rfl ?_
              refine q_callS_i (kc2 := 0) (ks2 := 0) (as := [.int x10]) (rest := []) hf (fun x9 e9 => t_X7_isLetter e9) gX7_goes_X7_isLetter rfl hd9_X7_isLetter rfl ⟨(by decide), by decide⟩ ⟨rfl, rfl⟩ (Nat.le_of_ble_eq_true rfl) dX7_goes_161 rfl (fun x16 hf => ?_)
              refine pw_istore_n dX7_goes_164 (by decide) rfl ?_
              dsimp only [lset, lset2, clr]
              refine pw_iconst (v := (1)) dX7_goes_165 (by decide) ?_
              refine pw_istore_n dX7_goes_166 (by decide) rfl ?_
              dsimp only [lset, lset2, clr]
              refine pw_aload_n dX7_goes_167 rfl ?_
              refine pw_lconst (v := (0)) dX7_goes_168 (by decide) ?_
              refine q_pV (ty := .long) hf tyX7 tyX7_ok nmX7 rfl (by decide) w9_X7_goes_X7 (by decide +kernel) rfl (by decide +kernel) rfl rfl dX7_goes_169 (fun h17 hf => ?_)
              refine pw_aload_n dX7_goes_172 rfl ?_
              refine pw_iconst (v := (0)) dX7_goes_173 (by decide) ?_
              refine q_pV (ty := .int) hf tyX7 tyX7_ok nmX7 rfl (by decide) w9_X7_goes_X7 (by decide +kernel) rfl (by decide +kernel) rfl rfl dX7_goes_174 (fun h18 hf => ?_)
              exact pw_lo (lle_s rfl (lle_n (lle_s rfl (lle_s rfl (lle_n lle_0))))) (w_X7_goes_177 4096 _ _ _ _ hf)
            · refine pw_aload_n dX7_goes_134 rfl ?_
              refine pw_iload_n dX7_goes_135 rfl ?_
              refine pw_bipush (v := (59)) dX7_goes_136 (by decide) ?_
              refine q_icmp_ne (tgt := 145) hf dX7_goes_138 (by decide) (fun hf _ => ?_) (fun hf _ => ?_)
              · refine pw_iconst (v := (1)) dX7_goes_145 (by decide) ?_
                refine q_pV (ty := .int) hf tyX7 tyX7_ok nmX7 rfl (by decide) w9_X7_goes_X7 (by decide +kernel) rfl (by decide +kernel) rfl rfl dX7_goes_146 (fun h19 hf => ?_)
                refine pw_aload_n dX7_goes_149 rfl ?_
                refine pw_dup dX7_goes_150 rfl ?_
                refine q_gI hf rfl (by decide) w9_X7_goes_X7 (by decide +kernel) dX7_goes_151 (fun x20 hf => ?_)
                refine pw_iconst (v := (1)) dX7_goes_154 (by decide) ?_
                refine pw_iadd dX7_goes_155 ?_
                refine q_pV (ty := .int) hf tyX7 tyX7_ok nmX7 rfl (by decide) w9_X7_goes_X7 (by decide +kernel) rfl (by decide +kernel) rfl rfl dX7_goes_156 (fun h21 hf => ?_)
                exact pw_vret rfl dX7_goes_159 ⟨rfl, Option.some.inj hf⟩
              · refine pw_iconst (v := (4)) dX7_goes_141 (by decide) ?_
                refine pw_goto (tgt := 146) dX7_goes_142 (by decide) ?_
                refine q_pV (ty := .int) hf tyX7 tyX7_ok nmX7 rfl (by decide) w9_X7_goes_X7 (by decide +kernel) rfl (by decide +kernel) rfl rfl dX7_goes_146 (fun h22 hf => ?_)
                refine pw_aload_n dX7_goes_149 rfl ?_
                refine pw_dup dX7_goes_150 rfl ?_
                refine q_gI hf rfl (by decide) w9_X7_goes_X7 (by decide +kernel) dX7_goes_151 (fun x23 hf => ?_)
                refine pw_iconst (v := (1)) dX7_goes_154 (by decide) ?_
                refine pw_iadd dX7_goes_155 ?_
                refine q_pV (ty := .int) hf tyX7 tyX7_ok nmX7 rfl (by decide) w9_X7_goes_X7 (by decide +kernel) rfl (by decide +kernel) rfl rfl dX7_goes_156 (fun h24 hf => ?_)
                exact pw_vret rfl dX7_goes_159 ⟨rfl, Option.some.inj hf⟩
        · refine pw_aload_n dX7_goes_104 rfl ?_
          refine pw_iconst (v := (0)) dX7_goes_105 (by decide) ?_
          refine q_pV (ty := .int) hf tyX7 tyX7_ok nmX7 rfl (by decide) w9_X7_goes_X7 (by decide +kernel) rfl (by decide +kernel) rfl rfl dX7_goes_106 (fun h25 hf => ?_)
          exact pw_vret rfl dX7_goes_109 ⟨rfl, Option.some.inj hf⟩
      · refine pw_aload_n dX7_goes_70 rfl ?_
        refine q_gI hf rfl (by decide) w9_X7_goes_X7 (by decide +kernel) dX7_goes_71 (fun x26 hf => ?_)
        refine pw_sipush (v := (300)) dX7_goes_74 (by decide) ?_
        refine q_icmp_lt (tgt := 93) hf dX7_goes_77 (by decide) (fun hf _ => ?_) (fun hf _ => ?_)
        · refine pw_aload_n dX7_goes_93 rfl ?_
          refine q_gI hf rfl (by decide) w9_X7_goes_X7 (by decide +kernel) dX7_goes_94 (fun x27 hf => ?_)
          refine pw_aload_n dX7_goes_97 rfl ?_
          refine q_gI hf rfl (by decide) w9_X7_goes_X7 (by decide +kernel) dX7_goes_98 (fun x28 hf => ?_)
          refine q_icmp_lt (tgt := 110) hf dX7_goes_101 (by decide) (fun hf _ => ?_) (fun hf _ => ?_)
          · refine pw_aload_n dX7_goes_110 rfl ?_
            refine q_gR hf rfl (by decide) w9_X7_goes_X7 (by decide +kernel) dX7_goes_111 (fun x29 hf => ?_)
            refine pw_aload_n dX7_goes_114 rfl ?_
            refine q_gI hf rfl (by decide) w9_X7_goes_X7 (by decide +kernel) dX7_goes_115 (fun x30 hf => ?_)
            refine q_iald hf dX7_goes_118 (fun x31 hf => ?_)
            refine pw_istore_n dX7_goes_119 (by decide) rfl ?_
            dsimp only [lset, lset2, clr]
            refine pw_iload_n dX7_goes_120 rfl ?_
            refine q_callS_i (kc2 := 0) (ks2 := 0) (as := [.int x31]) (rest := []) hf (fun x9 e9 => t_X7_isLetter e9) gX7_goes_X7_isLetter rfl hd9_X7_isLetter rfl ⟨(by decide), by decide⟩ ⟨rfl, rfl⟩ (Nat.le_of_ble_eq_true rfl) dX7_goes_121 rfl (fun x32 hf => ?_)
            refine q_if_ne (tgt := 160) hf dX7_goes_124 (by decide) (fun hf _ => ?_) (fun hf _ => ?_)
            · refine pw_iload_n dX7_goes_160 rfl ?_
              refine q_callS_i (kc2 := 0) (ks2 := 0) (as := [.int x31]) (rest := []) hf (fun x9 e9 => t_X7_isLetter e9) gX7_goes_X7_isLetter rfl hd9_X7_isLetter rfl ⟨(by decide), by decide⟩ ⟨rfl, rfl⟩ (Nat.le_of_ble_eq_true rfl) dX7_goes_161 rfl (fun x33 hf => ?_)
              refine pw_istore_n dX7_goes_164 (by decide) rfl ?_
              dsimp only [lset, lset2, clr]
              refine pw_iconst (v := (1)) dX7_goes_165 (by decide) ?_
              refine pw_istore_n dX7_goes_166 (by decide) rfl ?_
              dsimp only [lset, lset2, clr]
              refine pw_aload_n dX7_goes_167 rfl ?_
              refine pw_lconst (v := (0)) dX7_goes_168 (by decide) ?_
              refine q_pV (ty := .long) hf tyX7 tyX7_ok nmX7 rfl (by decide) w9_X7_goes_X7 (by decide +kernel) rfl (by decide +kernel) rfl rfl dX7_goes_169 (fun h34 hf => ?_)
              refine pw_aload_n dX7_goes_172 rfl ?_
              refine pw_iconst (v := (0)) dX7_goes_173 (by decide) ?_
              refine q_pV (ty := .int) hf tyX7 tyX7_ok nmX7 rfl (by decide) w9_X7_goes_X7 (by decide +kernel) rfl (by decide +kernel) rfl rfl dX7_goes_174 (fun h35 hf => ?_)
              exact pw_lo (lle_s rfl (lle_n (lle_s rfl (lle_s rfl (lle_n lle_0))))) (w_X7_goes_177 4096 _ _ _ _ hf)
            · refine pw_iload_n dX7_goes_127 rfl ?_
              refine q_callS_i (kc2 := 0) (ks2 := 0) (as := [.int x31]) (rest := []) hf (fun x9 e9 => t_X7_isDigit e9) gX7_goes_X7_isDigit rfl hd9_X7_isDigit rfl ⟨(by decide), by decide⟩ ⟨rfl, rfl⟩ (Nat.le_of_ble_eq_true rfl) dX7_goes_128 rfl (fun x36 hf => ?_)
              refine q_if_ne (tgt := 160) hf dX7_goes_131 (by decide) (fun hf _ => ?_) (fun hf _ => ?_)
              · refine pw_iload_n dX7_goes_160 rfl ?_
                refine q_callS_i (kc2 := 0) (ks2 := 0) (as := [.int x31]) (rest := []) hf (fun x9 e9 => t_X7_isLetter e9) gX7_goes_X7_isLetter rfl hd9_X7_isLetter rfl ⟨(by decide), by decide⟩ ⟨rfl, rfl⟩ (Nat.le_of_ble_eq_true rfl) dX7_goes_161 rfl (fun x37 hf => ?_)
                refine pw_istore_n dX7_goes_164 (by decide) rfl ?_
                dsimp only [lset, lset2, clr]
                refine pw_iconst (v := (1)) dX7_goes_165 (by decide) ?_
                refine pw_istore_n dX7_goes_166 (by decide) rfl ?_
                dsimp only [lset, lset2, clr]
                refine pw_aload_n dX7_goes_167 rfl ?_
                refine pw_lconst (v := (0)) dX7_goes_168 (by decide) ?_
                refine q_pV (ty := .long) hf tyX7 tyX7_ok nmX7 rfl (by decide) w9_X7_goes_X7 (by decide +kernel) rfl (by decide +kernel) rfl rfl dX7_goes_169 (fun h38 hf => ?_)
                refine pw_aload_n dX7_goes_172 rfl ?_
                refine pw_iconst (v := (0)) dX7_goes_173 (by decide) ?_
                refine q_pV (ty := .int) hf tyX7 tyX7_ok nmX7 rfl (by decide) w9_X7_goes_X7 (by decide +kernel) rfl (by decide +kernel) rfl rfl dX7_goes_174 (fun h39 hf => ?_)
                exact pw_lo (lle_s rfl (lle_n (lle_s rfl (lle_s rfl (lle_n lle_0))))) (w_X7_goes_177 4096 _ _ _ _ hf)
              · refine pw_aload_n dX7_goes_134 rfl ?_
                refine pw_iload_n dX7_goes_135 rfl ?_
                refine pw_bipush (v := (59)) dX7_goes_136 (by decide) ?_
                refine q_icmp_ne (tgt := 145) hf dX7_goes_138 (by decide) (fun hf _ => ?_) (fun hf _ => ?_)
                · refine pw_iconst (v := (1)) dX7_goes_145 (by decide) ?_
                  refine q_pV (ty := .int) hf tyX7 tyX7_ok nmX7 rfl (by decide) w9_X7_goes_X7 (by decide +kernel) rfl (by decide +kernel) rfl rfl dX7_goes_146 (fun h40 hf => ?_)
                  refine pw_aload_n dX7_goes_149 rfl ?_
                  refine pw_dup dX7_goes_150 rfl ?_
                  refine q_gI hf rfl (by decide) w9_X7_goes_X7 (by decide +kernel) dX7_goes_151 (fun x41 hf => ?_)
                  refine pw_iconst (v := (1)) dX7_goes_154 (by decide) ?_
                  refine pw_iadd dX7_goes_155 ?_
                  refine q_pV (ty := .int) hf tyX7 tyX7_ok nmX7 rfl (by decide) w9_X7_goes_X7 (by decide +kernel) rfl (by decide +kernel) rfl rfl dX7_goes_156 (fun h42 hf => ?_)
                  exact pw_vret rfl dX7_goes_159 ⟨rfl, Option.some.inj hf⟩
                · refine pw_iconst (v := (4)) dX7_goes_141 (by decide) ?_
                  refine pw_goto (tgt := 146) dX7_goes_142 (by decide) ?_
                  refine q_pV (ty := .int) hf tyX7 tyX7_ok nmX7 rfl (by decide) w9_X7_goes_X7 (by decide +kernel) rfl (by decide +kernel) rfl rfl dX7_goes_146 (fun h43 hf => ?_)
                  refine pw_aload_n dX7_goes_149 rfl ?_
                  refine pw_dup dX7_goes_150 rfl ?_
                  refine q_gI hf rfl (by decide) w9_X7_goes_X7 (by decide +kernel) dX7_goes_151 (fun x44 hf => ?_)
                  refine pw_iconst (v := (1)) dX7_goes_154 (by decide) ?_
                  refine pw_iadd dX7_goes_155 ?_
                  refine q_pV (ty := .int) hf tyX7 tyX7_ok nmX7 rfl (by decide) w9_X7_goes_X7 (by decide +kernel) rfl (by decide +kernel) rfl rfl dX7_goes_156 (fun h45 hf => ?_)
                  exact pw_vret rfl dX7_goes_159 ⟨rfl, Option.some.inj hf⟩
          · refine pw_aload_n dX7_goes_104 rfl ?_
            refine pw_iconst (v := (0)) dX7_goes_105 (by decide) ?_
            refine q_pV (ty := .int) hf tyX7 tyX7_ok nmX7 rfl (by decide) w9_X7_goes_X7 (by decide +kernel) rfl (by decide +kernel) rfl rfl dX7_goes_106 (fun h46 hf => ?_)
            exact pw_vret rfl dX7_goes_109 ⟨rfl, Option.some.inj hf⟩
        · refine pw_aload_n dX7_goes_80 rfl ?_
          refine pw_sipush (v := (300)) dX7_goes_81 (by decide) ?_
          refine q_pV (ty := .int) hf tyX7 tyX7_ok nmX7 rfl (by decide) w9_X7_goes_X7 (by decide +kernel) rfl (by decide +kernel) rfl rfl dX7_goes_84 (fun h47 hf => ?_)
          refine pw_aload_n dX7_goes_87 rfl ?_
          refine pw_iconst (v := (1)) dX7_goes_88 (by decide) ?_
          refine q_pV (ty := .int) hf tyX7 tyX7_ok nmX7 rfl (by decide) w9_X7_goes_X7 (by decide +kernel) rfl (by decide +kernel) rfl rfl dX7_goes_89 (fun h48 hf => ?_)
          exact pw_vret rfl dX7_goes_92 ⟨rfl, Option.some.inj hf⟩
    · refine pw_aload_n dX7_goes_11 rfl ?_
      refine q_gR hf rfl (by decide) w9_X7_goes_X7 (by decide +kernel) dX7_goes_12 (fun x49 hf => ?_)
      refine pw_aload_n dX7_goes_15 rfl ?_
      refine q_gI hf rfl (by decide) w9_X7_goes_X7 (by decide +kernel) dX7_goes_16 (fun x50 hf => ?_)
      refine q_iald hf dX7_goes_19 (fun x51 hf => ?_)
      refine pw_bipush (v := (32)) dX7_goes_20 (by decide) ?_
      refine q_icmp_eq (tgt := 39) hf dX7_goes_22 (by decide) (fun hf _ => ?_) (fun hf _ => ?_)
      · refine pw_aload_n dX7_goes_39 rfl ?_
        refine pw_dup dX7_goes_40 rfl ?_
        refine q_gI hf rfl (by decide) w9_X7_goes_X7 (by decide +kernel) dX7_goes_41 (fun x52 hf => ?_)
        refine pw_iconst (v := (1)) dX7_goes_44 (by decide) ?_
        refine pw_iadd dX7_goes_45 ?_
        refine q_pV (ty := .int) hf tyX7 tyX7_ok nmX7 rfl (by decide) w9_X7_goes_X7 (by decide +kernel) rfl (by decide +kernel) rfl rfl dX7_goes_46 (fun h53 hf => ?_)
        refine pw_goto (tgt := 0) dX7_goes_49 (by decide) ?_
        exact pw_lo (lle_s rfl (lle_n (lle_n (lle_n (lle_n lle_0))))) (ih _ _ hf)
      · refine pw_aload_n dX7_goes_25 rfl ?_
        refine q_gR hf rfl (by decide) w9_X7_goes_X7 (by decide +kernel) dX7_goes_26 (fun x54 hf => ?_)
        refine pw_aload_n dX7_goes_29 rfl ?_
        refine q_gI hf rfl (by decide) w9_X7_goes_X7 (by decide +kernel) dX7_goes_30 (fun x55 hf => ?_)
        refine q_iald hf dX7_goes_33 (fun x56 hf => ?_)
        refine pw_bipush (v := (10)) dX7_goes_34 (by decide) ?_
        refine q_icmp_ne (tgt := 52) hf dX7_goes_36 (by decide) (fun hf _ => ?_) (fun hf _ => ?_)
        · refine pw_aload_n dX7_goes_52 rfl ?_
          refine pw_aload_n dX7_goes_53 rfl ?_
          refine q_gI hf rfl (by decide) w9_X7_goes_X7 (by decide +kernel) dX7_goes_54 (fun x57 hf => ?_)
          refine q_pV (ty := .int) hf tyX7 tyX7_ok nmX7 rfl (by decide) w9_X7_goes_X7 (by decide +kernel) rfl (by decide +kernel) rfl rfl dX7_goes_57 (fun h58 hf => ?_)
          refine pw_aload_n dX7_goes_60 rfl ?_
          refine q_gI hf rfl (by decide) w9_X7_goes_X7 (by decide +kernel) dX7_goes_61 (fun x59 hf => ?_)
          refine pw_sipush (v := (300)) dX7_goes_64 (by decide) ?_
          refine q_icmp_le (tgt := 93) hf dX7_goes_67 (by decide) (fun hf _ => ?_) (fun hf _ => ?_)
          · refine pw_aload_n dX7_goes_93 rfl ?_
            refine q_gI hf rfl (by decide) w9_X7_goes_X7 (by decide +kernel) dX7_goes_94 (fun x60 hf => ?_)
            refine pw_aload_n dX7_goes_97 rfl ?_
            refine q_gI hf rfl (by decide) w9_X7_goes_X7 (by decide +kernel) dX7_goes_98 (fun x61 hf => ?_)
            refine q_icmp_lt (tgt := 110) hf dX7_goes_101 (by decide) (fun hf _ => ?_) (fun hf _ => ?_)
            · refine pw_aload_n dX7_goes_110 rfl ?_
              refine q_gR hf rfl (by decide) w9_X7_goes_X7 (by decide +kernel) dX7_goes_111 (fun x62 hf => ?_)
              refine pw_aload_n dX7_goes_114 rfl ?_
              refine q_gI hf rfl (by decide) w9_X7_goes_X7 (by decide +kernel) dX7_goes_115 (fun x63 hf => ?_)
              refine q_iald hf dX7_goes_118 (fun x64 hf => ?_)
              refine pw_istore_n dX7_goes_119 (by decide) rfl ?_
              dsimp only [lset, lset2, clr]
              refine pw_iload_n dX7_goes_120 rfl ?_
              refine q_callS_i (kc2 := 0) (ks2 := 0) (as := [.int x64]) (rest := []) hf (fun x9 e9 => t_X7_isLetter e9) gX7_goes_X7_isLetter rfl hd9_X7_isLetter rfl ⟨(by decide), by decide⟩ ⟨rfl, rfl⟩ (Nat.le_of_ble_eq_true rfl) dX7_goes_121 rfl (fun x65 hf => ?_)
              refine q_if_ne (tgt := 160) hf dX7_goes_124 (by decide) (fun hf _ => ?_) (fun hf _ => ?_)
              · refine pw_iload_n dX7_goes_160 rfl ?_
                refine q_callS_i (kc2 := 0) (ks2 := 0) (as := [.int x64]) (rest := []) hf (fun x9 e9 => t_X7_isLetter e9) gX7_goes_X7_isLetter rfl hd9_X7_isLetter rfl ⟨(by decide), by decide⟩ ⟨rfl, rfl⟩ (Nat.le_of_ble_eq_true rfl) dX7_goes_161 rfl (fun x66 hf => ?_)
                refine pw_istore_n dX7_goes_164 (by decide) rfl ?_
                dsimp only [lset, lset2, clr]
                refine pw_iconst (v := (1)) dX7_goes_165 (by decide) ?_
                refine pw_istore_n dX7_goes_166 (by decide) rfl ?_
                dsimp only [lset, lset2, clr]
                refine pw_aload_n dX7_goes_167 rfl ?_
                refine pw_lconst (v := (0)) dX7_goes_168 (by decide) ?_
                refine q_pV (ty := .long) hf tyX7 tyX7_ok nmX7 rfl (by decide) w9_X7_goes_X7 (by decide +kernel) rfl (by decide +kernel) rfl rfl dX7_goes_169 (fun h67 hf => ?_)
                refine pw_aload_n dX7_goes_172 rfl ?_
                refine pw_iconst (v := (0)) dX7_goes_173 (by decide) ?_
                refine q_pV (ty := .int) hf tyX7 tyX7_ok nmX7 rfl (by decide) w9_X7_goes_X7 (by decide +kernel) rfl (by decide +kernel) rfl rfl dX7_goes_174 (fun h68 hf => ?_)
                exact pw_lo (lle_s rfl (lle_n (lle_s rfl (lle_s rfl (lle_n lle_0))))) (w_X7_goes_177 4096 _ _ _ _ hf)
              · refine pw_iload_n dX7_goes_127 rfl ?_
                refine q_callS_i (kc2 := 0) (ks2 := 0) (as := [.int x64]) (rest := []) hf (fun x9 e9 => t_X7_isDigit e9) gX7_goes_X7_isDigit rfl hd9_X7_isDigit rfl ⟨(by decide), by decide⟩ ⟨rfl, rfl⟩ (Nat.le_of_ble_eq_true rfl) dX7_goes_128 rfl (fun x69 hf => ?_)
                refine q_if_ne (tgt := 160) hf dX7_goes_131 (by decide) (fun hf _ => ?_) (fun hf _ => ?_)
                · refine pw_iload_n dX7_goes_160 rfl ?_
                  refine q_callS_i (kc2 := 0) (ks2 := 0) (as := [.int x64]) (rest := []) hf (fun x9 e9 => t_X7_isLetter e9) gX7_goes_X7_isLetter rfl hd9_X7_isLetter rfl ⟨(by decide), by decide⟩ ⟨rfl, rfl⟩ (Nat.le_of_ble_eq_true rfl) dX7_goes_161 rfl (fun x70 hf => ?_)
                  refine pw_istore_n dX7_goes_164 (by decide) rfl ?_
                  dsimp only [lset, lset2, clr]
                  refine pw_iconst (v := (1)) dX7_goes_165 (by decide) ?_
                  refine pw_istore_n dX7_goes_166 (by decide) rfl ?_
                  dsimp only [lset, lset2, clr]
                  refine pw_aload_n dX7_goes_167 rfl ?_
                  refine pw_lconst (v := (0)) dX7_goes_168 (by decide) ?_
                  refine q_pV (ty := .long) hf tyX7 tyX7_ok nmX7 rfl (by decide) w9_X7_goes_X7 (by decide +kernel) rfl (by decide +kernel) rfl rfl dX7_goes_169 (fun h71 hf => ?_)
                  refine pw_aload_n dX7_goes_172 rfl ?_
                  refine pw_iconst (v := (0)) dX7_goes_173 (by decide) ?_
                  refine q_pV (ty := .int) hf tyX7 tyX7_ok nmX7 rfl (by decide) w9_X7_goes_X7 (by decide +kernel) rfl (by decide +kernel) rfl rfl dX7_goes_174 (fun h72 hf => ?_)
                  exact pw_lo (lle_s rfl (lle_n (lle_s rfl (lle_s rfl (lle_n lle_0))))) (w_X7_goes_177 4096 _ _ _ _ hf)
                · refine pw_aload_n dX7_goes_134 rfl ?_
                  refine pw_iload_n dX7_goes_135 rfl ?_
                  refine pw_bipush (v := (59)) dX7_goes_136 (by decide) ?_
                  refine q_icmp_ne (tgt := 145) hf dX7_goes_138 (by decide) (fun hf _ => ?_) (fun hf _ => ?_)
                  · refine pw_iconst (v := (1)) dX7_goes_145 (by decide) ?_
                    refine q_pV (ty := .int) hf tyX7 tyX7_ok nmX7 rfl (by decide) w9_X7_goes_X7 (by decide +kernel) rfl (by decide +kernel) rfl rfl dX7_goes_146 (fun h73 hf => ?_)
                    refine pw_aload_n dX7_goes_149 rfl ?_
                    refine pw_dup dX7_goes_150 rfl ?_
                    refine q_gI hf rfl (by decide) w9_X7_goes_X7 (by decide +kernel) dX7_goes_151 (fun x74 hf => ?_)
                    refine pw_iconst (v := (1)) dX7_goes_154 (by decide) ?_
                    refine pw_iadd dX7_goes_155 ?_
                    refine q_pV (ty := .int) hf tyX7 tyX7_ok nmX7 rfl (by decide) w9_X7_goes_X7 (by decide +kernel) rfl (by decide +kernel) rfl rfl dX7_goes_156 (fun h75 hf => ?_)
                    exact pw_vret rfl dX7_goes_159 ⟨rfl, Option.some.inj hf⟩
                  · refine pw_iconst (v := (4)) dX7_goes_141 (by decide) ?_
                    refine pw_goto (tgt := 146) dX7_goes_142 (by decide) ?_
                    refine q_pV (ty := .int) hf tyX7 tyX7_ok nmX7 rfl (by decide) w9_X7_goes_X7 (by decide +kernel) rfl (by decide +kernel) rfl rfl dX7_goes_146 (fun h76 hf => ?_)
                    refine pw_aload_n dX7_goes_149 rfl ?_
                    refine pw_dup dX7_goes_150 rfl ?_
                    refine q_gI hf rfl (by decide) w9_X7_goes_X7 (by decide +kernel) dX7_goes_151 (fun x77 hf => ?_)
                    refine pw_iconst (v := (1)) dX7_goes_154 (by decide) ?_
                    refine pw_iadd dX7_goes_155 ?_
                    refine q_pV (ty := .int) hf tyX7 tyX7_ok nmX7 rfl (by decide) w9_X7_goes_X7 (by decide +kernel) rfl (by decide +kernel) rfl rfl dX7_goes_156 (fun h78 hf => ?_)
                    exact pw_vret rfl dX7_goes_159 ⟨rfl, Option.some.inj hf⟩
            · refine pw_aload_n dX7_goes_104 rfl ?_
              refine pw_iconst (v := (0)) dX7_goes_105 (by decide) ?_
              refine q_pV (ty := .int) hf tyX7 tyX7_ok nmX7 rfl (by decide) w9_X7_goes_X7 (by decide +kernel) rfl (by decide +kernel) rfl rfl dX7_goes_106 (fun h79 hf => ?_)
              exact pw_vret rfl dX7_goes_109 ⟨rfl, Option.some.inj hf⟩
          · refine pw_aload_n dX7_goes_70 rfl ?_
            refine q_gI hf rfl (by decide) w9_X7_goes_X7 (by decide +kernel) dX7_goes_71 (fun x80 hf => ?_)
            refine pw_sipush (v := (300)) dX7_goes_74 (by decide) ?_
            refine q_icmp_lt (tgt := 93) hf dX7_goes_77 (by decide) (fun hf _ => ?_) (fun hf _ => ?_)
            · refine pw_aload_n dX7_goes_93 rfl ?_
              refine q_gI hf rfl (by decide) w9_X7_goes_X7 (by decide +kernel) dX7_goes_94 (fun x81 hf => ?_)
              refine pw_aload_n dX7_goes_97 rfl ?_
              refine q_gI hf rfl (by decide) w9_X7_goes_X7 (by decide +kernel) dX7_goes_98 (fun x82 hf => ?_)
              refine q_icmp_lt (tgt := 110) hf dX7_goes_101 (by decide) (fun hf _ => ?_) (fun hf _ => ?_)
              · refine pw_aload_n dX7_goes_110 rfl ?_
                refine q_gR hf rfl (by decide) w9_X7_goes_X7 (by decide +kernel) dX7_goes_111 (fun x83 hf => ?_)
                refine pw_aload_n dX7_goes_114 rfl ?_
                refine q_gI hf rfl (by decide) w9_X7_goes_X7 (by decide +kernel) dX7_goes_115 (fun x84 hf => ?_)
                refine q_iald hf dX7_goes_118 (fun x85 hf => ?_)
                refine pw_istore_n dX7_goes_119 (by decide) rfl ?_
                dsimp only [lset, lset2, clr]
                refine pw_iload_n dX7_goes_120 rfl ?_
                refine q_callS_i (kc2 := 0) (ks2 := 0) (as := [.int x85]) (rest := []) hf (fun x9 e9 => t_X7_isLetter e9) gX7_goes_X7_isLetter rfl hd9_X7_isLetter rfl ⟨(by decide), by decide⟩ ⟨rfl, rfl⟩ (Nat.le_of_ble_eq_true rfl) dX7_goes_121 rfl (fun x86 hf => ?_)
                refine q_if_ne (tgt := 160) hf dX7_goes_124 (by decide) (fun hf _ => ?_) (fun hf _ => ?_)
                · refine pw_iload_n dX7_goes_160 rfl ?_
                  refine q_callS_i (kc2 := 0) (ks2 := 0) (as := [.int x85]) (rest := []) hf (fun x9 e9 => t_X7_isLetter e9) gX7_goes_X7_isLetter rfl hd9_X7_isLetter rfl ⟨(by decide), by decide⟩ ⟨rfl, rfl⟩ (Nat.le_of_ble_eq_true rfl) dX7_goes_161 rfl (fun x87 hf => ?_)
                  refine pw_istore_n dX7_goes_164 (by decide) rfl ?_
                  dsimp only [lset, lset2, clr]
                  refine pw_iconst (v := (1)) dX7_goes_165 (by decide) ?_
                  refine pw_istore_n dX7_goes_166 (by decide) rfl ?_
                  dsimp only [lset, lset2, clr]
                  refine pw_aload_n dX7_goes_167 rfl ?_
                  refine pw_lconst (v := (0)) dX7_goes_168 (by decide) ?_
                  refine q_pV (ty := .long) hf tyX7 tyX7_ok nmX7 rfl (by decide) w9_X7_goes_X7 (by decide +kernel) rfl (by decide +kernel) rfl rfl dX7_goes_169 (fun h88 hf => ?_)
                  refine pw_aload_n dX7_goes_172 rfl ?_
                  refine pw_iconst (v := (0)) dX7_goes_173 (by decide) ?_
                  refine q_pV (ty := .int) hf tyX7 tyX7_ok nmX7 rfl (by decide) w9_X7_goes_X7 (by decide +kernel) rfl (by decide +kernel) rfl rfl dX7_goes_174 (fun h89 hf => ?_)
                  exact pw_lo (lle_s rfl (lle_n (lle_s rfl (lle_s rfl (lle_n lle_0))))) (w_X7_goes_177 4096 _ _ _ _ hf)
                · refine pw_iload_n dX7_goes_127 rfl ?_
                  refine q_callS_i (kc2 := 0) (ks2 := 0) (as := [.int x85]) (rest := []) hf (fun x9 e9 => t_X7_isDigit e9) gX7_goes_X7_isDigit rfl hd9_X7_isDigit rfl ⟨(by decide), by decide⟩ ⟨rfl, rfl⟩ (Nat.le_of_ble_eq_true rfl) dX7_goes_128 rfl (fun x90 hf => ?_)
                  refine q_if_ne (tgt := 160) hf dX7_goes_131 (by decide) (fun hf _ => ?_) (fun hf _ => ?_)
                  · refine pw_iload_n dX7_goes_160 rfl ?_
                    refine q_callS_i (kc2 := 0) (ks2 := 0) (as := [.int x85]) (rest := []) hf (fun x9 e9 => t_X7_isLetter e9) gX7_goes_X7_isLetter rfl hd9_X7_isLetter rfl ⟨(by decide), by decide⟩ ⟨rfl, rfl⟩ (Nat.le_of_ble_eq_true rfl) dX7_goes_161 rfl (fun x91 hf => ?_)
                    refine pw_istore_n dX7_goes_164 (by decide) rfl ?_
                    dsimp only [lset, lset2, clr]
                    refine pw_iconst (v := (1)) dX7_goes_165 (by decide) ?_
                    refine pw_istore_n dX7_goes_166 (by decide) rfl ?_
                    dsimp only [lset, lset2, clr]
                    refine pw_aload_n dX7_goes_167 rfl ?_
                    refine pw_lconst (v := (0)) dX7_goes_168 (by decide) ?_
                    refine q_pV (ty := .long) hf tyX7 tyX7_ok nmX7 rfl (by decide) w9_X7_goes_X7 (by decide +kernel) rfl (by decide +kernel) rfl rfl dX7_goes_169 (fun h92 hf => ?_)
                    refine pw_aload_n dX7_goes_172 rfl ?_
                    refine pw_iconst (v := (0)) dX7_goes_173 (by decide) ?_
                    refine q_pV (ty := .int) hf tyX7 tyX7_ok nmX7 rfl (by decide) w9_X7_goes_X7 (by decide +kernel) rfl (by decide +kernel) rfl rfl dX7_goes_174 (fun h93 hf => ?_)
                    exact pw_lo (lle_s rfl (lle_n (lle_s rfl (lle_s rfl (lle_n lle_0))))) (w_X7_goes_177 4096 _ _ _ _ hf)
                  · refine pw_aload_n dX7_goes_134 rfl ?_
                    refine pw_iload_n dX7_goes_135 rfl ?_
                    refine pw_bipush (v := (59)) dX7_goes_136 (by decide) ?_
                    refine q_icmp_ne (tgt := 145) hf dX7_goes_138 (by decide) (fun hf _ => ?_) (fun hf _ => ?_)
                    · refine pw_iconst (v := (1)) dX7_goes_145 (by decide) ?_
                      refine q_pV (ty := .int) hf tyX7 tyX7_ok nmX7 rfl (by decide) w9_X7_goes_X7 (by decide +kernel) rfl (by decide +kernel) rfl rfl dX7_goes_146 (fun h94 hf => ?_)
                      refine pw_aload_n dX7_goes_149 rfl ?_
                      refine pw_dup dX7_goes_150 rfl ?_
                      refine q_gI hf rfl (by decide) w9_X7_goes_X7 (by decide +kernel) dX7_goes_151 (fun x95 hf => ?_)
                      refine pw_iconst (v := (1)) dX7_goes_154 (by decide) ?_
                      refine pw_iadd dX7_goes_155 ?_
                      refine q_pV (ty := .int) hf tyX7 tyX7_ok nmX7 rfl (by decide) w9_X7_goes_X7 (by decide +kernel) rfl (by decide +kernel) rfl rfl dX7_goes_156 (fun h96 hf => ?_)
                      exact pw_vret rfl dX7_goes_159 ⟨rfl, Option.some.inj hf⟩
                    · refine pw_iconst (v := (4)) dX7_goes_141 (by decide) ?_
                      refine pw_goto (tgt := 146) dX7_goes_142 (by decide) ?_
                      refine q_pV (ty := .int) hf tyX7 tyX7_ok nmX7 rfl (by decide) w9_X7_goes_X7 (by decide +kernel) rfl (by decide +kernel) rfl rfl dX7_goes_146 (fun h97 hf => ?_)
                      refine pw_aload_n dX7_goes_149 rfl ?_
                      refine pw_dup dX7_goes_150 rfl ?_
                      refine q_gI hf rfl (by decide) w9_X7_goes_X7 (by decide +kernel) dX7_goes_151 (fun x98 hf => ?_)
                      refine pw_iconst (v := (1)) dX7_goes_154 (by decide) ?_
                      refine pw_iadd dX7_goes_155 ?_
                      refine q_pV (ty := .int) hf tyX7 tyX7_ok nmX7 rfl (by decide) w9_X7_goes_X7 (by decide +kernel) rfl (by decide +kernel) rfl rfl dX7_goes_156 (fun h99 hf => ?_)
                      exact pw_vret rfl dX7_goes_159 ⟨rfl, Option.some.inj hf⟩
              · refine pw_aload_n dX7_goes_104 rfl ?_
                refine pw_iconst (v := (0)) dX7_goes_105 (by decide) ?_
                refine q_pV (ty := .int) hf tyX7 tyX7_ok nmX7 rfl (by decide) w9_X7_goes_X7 (by decide +kernel) rfl (by decide +kernel) rfl rfl dX7_goes_106 (fun h100 hf => ?_)
                exact pw_vret rfl dX7_goes_109 ⟨rfl, Option.some.inj hf⟩
            · refine pw_aload_n dX7_goes_80 rfl ?_
              refine pw_sipush (v := (300)) dX7_goes_81 (by decide) ?_
              refine q_pV (ty := .int) hf tyX7 tyX7_ok nmX7 rfl (by decide) w9_X7_goes_X7 (by decide +kernel) rfl (by decide +kernel) rfl rfl dX7_goes_84 (fun h101 hf => ?_)
              refine pw_aload_n dX7_goes_87 rfl ?_
              refine pw_iconst (v := (1)) dX7_goes_88 (by decide) ?_
              refine q_pV (ty := .int) hf tyX7 tyX7_ok nmX7 rfl (by decide) w9_X7_goes_X7 (by decide +kernel) rfl (by decide +kernel) rfl rfl dX7_goes_89 (fun h102 hf => ?_)
              exact pw_vret rfl dX7_goes_92 ⟨rfl, Option.some.inj hf⟩
        · refine pw_aload_n dX7_goes_39 rfl ?_
          refine pw_dup dX7_goes_40 rfl ?_
          refine q_gI hf rfl (by decide) w9_X7_goes_X7 (by decide +kernel) dX7_goes_41 (fun x103 hf => ?_)
          refine pw_iconst (v := (1)) dX7_goes_44 (by decide) ?_
          refine pw_iadd dX7_goes_45 ?_
          refine q_pV (ty := .int) hf tyX7 tyX7_ok nmX7 rfl (by decide) w9_X7_goes_X7 (by decide +kernel) rfl (by decide +kernel) rfl rfl dX7_goes_46 (fun h104 hf => ?_)
          refine pw_goto (tgt := 0) dX7_goes_49 (by decide) ?_
          exact pw_lo (lle_s rfl (lle_n (lle_n (lle_n (lle_n lle_0))))) (ih _ _ hf)
def f_X7_goes (h : Hp) (a0 : Nat) : Option Hp := f_X7_goes_0 4096 a0 h
set_option maxHeartbeats 4000000 in
set_option maxRecDepth 100000 in
theorem t_X7_goes {g : GT} {l : Launch} {h : Hp} {a0 : Nat} {r : Hp} (hf : f_X7_goes h a0 = some r) : PM g l 2 0 0 yX7_goes wsX7_goes [.ref a0] h (fun r9 h9 => r9 = none ∧ h9 = r) := by
  refine pm_of (M := m_X7_goes) (by decide) rfl rfl rfl (Nat.le_of_ble_eq_true rfl) (lo := [some (.ref a0), none, none, none, none]) rfl ?_
  rw [f_X7_goes] at hf
  exact pw_lo (lle_s rfl (lle_n (lle_n (lle_n (lle_n lle_0))))) (w_X7_goes_0 4096 _ _ hf)
/-! X7_spelt -/
abbrev m_X7_spelt : MD := (cX7_spelt, RX7, "spelt", wsX7_spelt, 7, (some .long))
theorem hd9_X7_spelt : yX7_spelt.cls ≠ "java/lang/invoke/MethodHandle" ∧ yX7_spelt.cls ≠ "java/lang/invoke/VarHandle" ∧ (parseMethodDescriptor yX7_spelt.desc).map (fun d => d.parameters.length) = some 5 := by decide +kernel
def f_X7_spelt (h : Hp) (a0 : Int32) (a1 : Int32) (a2 : Int32) (a3 : Int32) (a4 : Int32) : Option Int64 := if a2 ≤ 0 then (if a3 ≤ 0 then (if a4 ≤ 0 then (some ((((27 : Int64) * (a0.toInt64 - (96 : Int64))) + a1.toInt64) - (96 : Int64))) else (some ((((27 : Int64) * ((((27 : Int64) * (a0.toInt64 - (96 : Int64))) + a1.toInt64) - (96 : Int64))) + a4.toInt64) - (96 : Int64)))) else (if a4 ≤ 0 then (some ((((27 : Int64) * ((((27 : Int64) * (a0.toInt64 - (96 : Int64))) + a1.toInt64) - (96 : Int64))) + a3.toInt64) - (96 : Int64))) else (some ((((27 : Int64) * ((((27 : Int64) * ((((27 : Int64) * (a0.toInt64 - (96 : Int64))) + a1.toInt64) - (96 : Int64))) + a3.toInt64) - (96 : Int64))) + a4.toInt64) - (96 : Int64))))) else (if a3 ≤ 0 then (if a4 ≤ 0 then (some ((((27 : Int64) * ((((27 : Int64) * (a0.toInt64 - (96 : Int64))) + a1.toInt64) - (96 : Int64))) + a2.toInt64) - (96 : Int64))) else (some ((((27 : Int64) * ((((27 : Int64) * ((((27 : Int64) * (a0.toInt64 - (96 : Int64))) + a1.toInt64) - (96 : Int64))) + a2.toInt64) - (96 : Int64))) + a4.toInt64) - (96 : Int64)))) else (if a4 ≤ 0 then (some ((((27 : Int64) * ((((27 : Int64) * ((((27 : Int64) * (a0.toInt64 - (96 : Int64))) + a1.toInt64) - (96 : Int64))) + a2.toInt64) - (96 : Int64))) + a3.toInt64) - (96 : Int64))) else (some ((((27 : Int64) * ((((27 : Int64) * ((((27 : Int64) * ((((27 : Int64) * (a0.toInt64 - (96 : Int64))) + a1.toInt64) - (96 : Int64))) + a2.toInt64) - (96 : Int64))) + a3.toInt64) - (96 : Int64))) + a4.toInt64) - (96 : Int64)))))
set_option maxHeartbeats 4000000 in
set_option maxRecDepth 100000 in
theorem t_X7_spelt {g : GT} {l : Launch} {h : Hp} {a0 : Int32} {a1 : Int32} {a2 : Int32} {a3 : Int32} {a4 : Int32} {r : Int64} (hf : f_X7_spelt h a0 a1 a2 a3 a4 = some r) : PM g l 1 0 0 yX7_spelt wsX7_spelt [.int a0, .int a1, .int a2, .int a3, .int a4] h (fun r9 h9 => r9 = some (.long r) ∧ h9 = h) := by
  refine pm_of (M := m_X7_spelt) (by decide) rfl rfl rfl (Nat.le_of_ble_eq_true rfl) (lo := [some (.int a0), some (.int a1), some (.int a2), some (.int a3), some (.int a4), none, none]) rfl ?_
  rw [f_X7_spelt] at hf
  refine pw_ldc2 (v := (27)) dX7_spelt_0 (by decide +kernel) ?_
  refine pw_iload_n dX7_spelt_3 rfl ?_
  refine pw_i2l dX7_spelt_4 ?_
  refine pw_ldc2 (v := (96)) dX7_spelt_5 (by decide +kernel) ?_
  refine pw_lsub dX7_spelt_8 ?_
  refine pw_lmul dX7_spelt_9 ?_
  refine pw_iload_n dX7_spelt_10 rfl ?_
  refine pw_i2l dX7_spelt_11 ?_
  refine pw_ladd dX7_spelt_12 ?_
  refine pw_ldc2 (v := (96)) dX7_spelt_13 (by decide +kernel) ?_
  refine pw_lsub dX7_spelt_16 ?_
  refine pw_lstore dX7_spelt_17 (by decide) rfl ?_
  dsimp only [lset, lset2, clr]
  refine pw_iload_n dX7_spelt_19 rfl ?_
  refine q_if_le (tgt := 38) hf dX7_spelt_20 (by decide) (fun hf _ => ?_) (fun hf _ => ?_)
  · refine pw_iload_n dX7_spelt_38 rfl ?_
    refine q_if_le (tgt := 57) hf dX7_spelt_39 (by decide) (fun hf _ => ?_) (fun hf _ => ?_)
    · refine pw_iload dX7_spelt_57 rfl ?_
      refine q_if_le (tgt := 79) hf dX7_spelt_59 (by decide) (fun hf _ => ?_) (fun hf _ => ?_)
      · refine pw_lload dX7_spelt_79 rfl ?_
        exact pw_lret (x := (((27 : Int64) * (a0.toInt64 - (96 : Int64))) + a1.toInt64) - (96 : Int64)) rfl dX7_spelt_81 ⟨congrArg (fun z => some (Value.long z)) (Option.some.inj hf), rfl⟩
      · refine pw_ldc2 (v := (27)) dX7_spelt_62 (by decide +kernel) ?_
        refine pw_lload dX7_spelt_65 rfl ?_
        refine pw_lmul dX7_spelt_67 ?_
        refine pw_iload dX7_spelt_68 rfl ?_
        refine pw_i2l dX7_spelt_70 ?_
        refine pw_ladd dX7_spelt_71 ?_
        refine pw_ldc2 (v := (96)) dX7_spelt_72 (by decide +kernel) ?_
        refine pw_lsub dX7_spelt_75 ?_
        refine pw_goto (tgt := 81) dX7_spelt_76 (by decide) ?_
        exact pw_lret (x := (((27 : Int64) * ((((27 : Int64) * (a0.toInt64 - (96 : Int64))) + a1.toInt64) - (96 : Int64))) + a4.toInt64) - (96 : Int64)) rfl dX7_spelt_81 ⟨congrArg (fun z => some (Value.long z)) (Option.some.inj hf), rfl⟩
    · refine pw_ldc2 (v := (27)) dX7_spelt_42 (by decide +kernel) ?_
      refine pw_lload dX7_spelt_45 rfl ?_
      refine pw_lmul dX7_spelt_47 ?_
      refine pw_iload_n dX7_spelt_48 rfl ?_
      refine pw_i2l dX7_spelt_49 ?_
      refine pw_ladd dX7_spelt_50 ?_
      refine pw_ldc2 (v := (96)) dX7_spelt_51 (by decide +kernel) ?_
      refine pw_lsub dX7_spelt_54 ?_
      refine pw_lstore dX7_spelt_55 (by decide) rfl ?_
      dsimp only [lset, lset2, clr]
      refine pw_iload dX7_spelt_57 rfl ?_
      refine q_if_le (tgt := 79) hf dX7_spelt_59 (by decide) (fun hf _ => ?_) (fun hf _ => ?_)
      · refine pw_lload dX7_spelt_79 rfl ?_
        exact pw_lret (x := (((27 : Int64) * ((((27 : Int64) * (a0.toInt64 - (96 : Int64))) + a1.toInt64) - (96 : Int64))) + a3.toInt64) - (96 : Int64)) rfl dX7_spelt_81 ⟨congrArg (fun z => some (Value.long z)) (Option.some.inj hf), rfl⟩
      · refine pw_ldc2 (v := (27)) dX7_spelt_62 (by decide +kernel) ?_
        refine pw_lload dX7_spelt_65 rfl ?_
        refine pw_lmul dX7_spelt_67 ?_
        refine pw_iload dX7_spelt_68 rfl ?_
        refine pw_i2l dX7_spelt_70 ?_
        refine pw_ladd dX7_spelt_71 ?_
        refine pw_ldc2 (v := (96)) dX7_spelt_72 (by decide +kernel) ?_
        refine pw_lsub dX7_spelt_75 ?_
        refine pw_goto (tgt := 81) dX7_spelt_76 (by decide) ?_
        exact pw_lret (x := (((27 : Int64) * ((((27 : Int64) * ((((27 : Int64) * (a0.toInt64 - (96 : Int64))) + a1.toInt64) - (96 : Int64))) + a3.toInt64) - (96 : Int64))) + a4.toInt64) - (96 : Int64)) rfl dX7_spelt_81 ⟨congrArg (fun z => some (Value.long z)) (Option.some.inj hf), rfl⟩
  · refine pw_ldc2 (v := (27)) dX7_spelt_23 (by decide +kernel) ?_
    refine pw_lload dX7_spelt_26 rfl ?_
    refine pw_lmul dX7_spelt_28 ?_
    refine pw_iload_n dX7_spelt_29 rfl ?_
    refine pw_i2l dX7_spelt_30 ?_
    refine pw_ladd dX7_spelt_31 ?_
    refine pw_ldc2 (v := (96)) dX7_spelt_32 (by decide +kernel) ?_
    refine pw_lsub dX7_spelt_35 ?_
    refine pw_lstore dX7_spelt_36 (by decide) rfl ?_
    dsimp only [lset, lset2, clr]
    refine pw_iload_n dX7_spelt_38 rfl ?_
    refine q_if_le (tgt := 57) hf dX7_spelt_39 (by decide) (fun hf _ => ?_) (fun hf _ => ?_)
    · refine pw_iload dX7_spelt_57 rfl ?_
      refine q_if_le (tgt := 79) hf dX7_spelt_59 (by decide) (fun hf _ => ?_) (fun hf _ => ?_)
      · refine pw_lload dX7_spelt_79 rfl ?_
        exact pw_lret (x := (((27 : Int64) * ((((27 : Int64) * (a0.toInt64 - (96 : Int64))) + a1.toInt64) - (96 : Int64))) + a2.toInt64) - (96 : Int64)) rfl dX7_spelt_81 ⟨congrArg (fun z => some (Value.long z)) (Option.some.inj hf), rfl⟩
      · refine pw_ldc2 (v := (27)) dX7_spelt_62 (by decide +kernel) ?_
        refine pw_lload dX7_spelt_65 rfl ?_
        refine pw_lmul dX7_spelt_67 ?_
        refine pw_iload dX7_spelt_68 rfl ?_
        refine pw_i2l dX7_spelt_70 ?_
        refine pw_ladd dX7_spelt_71 ?_
        refine pw_ldc2 (v := (96)) dX7_spelt_72 (by decide +kernel) ?_
        refine pw_lsub dX7_spelt_75 ?_
        refine pw_goto (tgt := 81) dX7_spelt_76 (by decide) ?_
        exact pw_lret (x := (((27 : Int64) * ((((27 : Int64) * ((((27 : Int64) * (a0.toInt64 - (96 : Int64))) + a1.toInt64) - (96 : Int64))) + a2.toInt64) - (96 : Int64))) + a4.toInt64) - (96 : Int64)) rfl dX7_spelt_81 ⟨congrArg (fun z => some (Value.long z)) (Option.some.inj hf), rfl⟩
    · refine pw_ldc2 (v := (27)) dX7_spelt_42 (by decide +kernel) ?_
      refine pw_lload dX7_spelt_45 rfl ?_
      refine pw_lmul dX7_spelt_47 ?_
      refine pw_iload_n dX7_spelt_48 rfl ?_
      refine pw_i2l dX7_spelt_49 ?_
      refine pw_ladd dX7_spelt_50 ?_
      refine pw_ldc2 (v := (96)) dX7_spelt_51 (by decide +kernel) ?_
      refine pw_lsub dX7_spelt_54 ?_
      refine pw_lstore dX7_spelt_55 (by decide) rfl ?_
      dsimp only [lset, lset2, clr]
      refine pw_iload dX7_spelt_57 rfl ?_
      refine q_if_le (tgt := 79) hf dX7_spelt_59 (by decide) (fun hf _ => ?_) (fun hf _ => ?_)
      · refine pw_lload dX7_spelt_79 rfl ?_
        exact pw_lret (x := (((27 : Int64) * ((((27 : Int64) * ((((27 : Int64) * (a0.toInt64 - (96 : Int64))) + a1.toInt64) - (96 : Int64))) + a2.toInt64) - (96 : Int64))) + a3.toInt64) - (96 : Int64)) rfl dX7_spelt_81 ⟨congrArg (fun z => some (Value.long z)) (Option.some.inj hf), rfl⟩
      · refine pw_ldc2 (v := (27)) dX7_spelt_62 (by decide +kernel) ?_
        refine pw_lload dX7_spelt_65 rfl ?_
        refine pw_lmul dX7_spelt_67 ?_
        refine pw_iload dX7_spelt_68 rfl ?_
        refine pw_i2l dX7_spelt_70 ?_
        refine pw_ladd dX7_spelt_71 ?_
        refine pw_ldc2 (v := (96)) dX7_spelt_72 (by decide +kernel) ?_
        refine pw_lsub dX7_spelt_75 ?_
        refine pw_goto (tgt := 81) dX7_spelt_76 (by decide) ?_
        exact pw_lret (x := (((27 : Int64) * ((((27 : Int64) * ((((27 : Int64) * ((((27 : Int64) * (a0.toInt64 - (96 : Int64))) + a1.toInt64) - (96 : Int64))) + a2.toInt64) - (96 : Int64))) + a3.toInt64) - (96 : Int64))) + a4.toInt64) - (96 : Int64)) rfl dX7_spelt_81 ⟨congrArg (fun z => some (Value.long z)) (Option.some.inj hf), rfl⟩
/-! X7_isWord -/
abbrev m_X7_isWord : MD := (cX7_isWord, RX7, "isWord", wsX7_isWord, 3, (some .boolean))
theorem w9_X7_isWord_X7 : ∀ w ∈ u_ws RX7 TX7 31, w ∈ wsX7_isWord := by decide +kernel
theorem hd9_X7_isWord : yX7_isWord.cls = RX7 ∧ yX7_isWord.cls ≠ "java/lang/invoke/MethodHandle" ∧ yX7_isWord.cls ≠ "java/lang/invoke/VarHandle" ∧ (parseMethodDescriptor yX7_isWord.desc).map (fun d => d.parameters.length) = some 1 := by decide +kernel
def f_X7_isWord (h : Hp) (a0 : Nat) (a1 : Int64) : Option Int32 := (gI h a0 7 6).bind fun x1 => if x1 = (2 : Int32) then ((gL h a0 7 10).bind fun x2 => if (lg_cmp x2 a1) = 0 then (some ((1 : Int32))) else (some ((0 : Int32)))) else (some ((0 : Int32)))
set_option maxHeartbeats 4000000 in
set_option maxRecDepth 100000 in
theorem t_X7_isWord {g : GT} {l : Launch} {h : Hp} {a0 : Nat} {a1 : Int64} {r : Int32} (hf : f_X7_isWord h a0 a1 = some r) : PM g l 1 0 0 yX7_isWord wsX7_isWord [.ref a0, .long a1] h (fun r9 h9 => r9 = some (.int r) ∧ h9 = h) := by
  refine pm_of (M := m_X7_isWord) (by decide) rfl rfl rfl (Nat.le_of_ble_eq_true rfl) (lo := [some (.ref a0), some (.long a1), none]) rfl ?_
  rw [f_X7_isWord] at hf
  refine pw_aload_n dX7_isWord_0 rfl ?_
  refine q_gI hf rfl (by decide) w9_X7_isWord_X7 (by decide +kernel) dX7_isWord_1 (fun x1 hf => ?_)
  refine pw_iconst (v := (2)) dX7_isWord_4 (by decide) ?_
  refine q_icmp_ne (tgt := 21) hf dX7_isWord_5 (by decide) (fun hf _ => ?_) (fun hf _ => ?_)
  · refine pw_iconst (v := (0)) dX7_isWord_21 (by decide) ?_
    exact pw_iret (x := (0 : Int32)) rfl rfl dX7_isWord_22 ⟨congrArg (fun z => some (Value.int z)) (Option.some.inj hf), rfl⟩
  · refine pw_aload_n dX7_isWord_8 rfl ?_
    refine q_gL hf rfl (by decide) w9_X7_isWord_X7 (by decide +kernel) dX7_isWord_9 (fun x2 hf => ?_)
    refine pw_lload_n dX7_isWord_12 rfl ?_
    refine pw_lcmp dX7_isWord_13 ?_
    refine q_if_ne (tgt := 21) hf dX7_isWord_14 (by decide) (fun hf _ => ?_) (fun hf _ => ?_)
    · refine pw_iconst (v := (0)) dX7_isWord_21 (by decide) ?_
      exact pw_iret (x := (0 : Int32)) rfl rfl dX7_isWord_22 ⟨congrArg (fun z => some (Value.int z)) (Option.some.inj hf), rfl⟩
    · refine pw_iconst (v := (1)) dX7_isWord_17 (by decide) ?_
      refine pw_goto (tgt := 22) dX7_isWord_18 (by decide) ?_
      exact pw_iret (x := (1 : Int32)) rfl rfl dX7_isWord_22 ⟨congrArg (fun z => some (Value.int z)) (Option.some.inj hf), rfl⟩
/-! X7_isCells -/
abbrev m_X7_isCells : MD := (cX7_isCells, RX7, "isCells", wsX7_isCells, 1, (some .boolean))
theorem hd9_X7_isCells : yX7_isCells.cls = RX7 ∧ yX7_isCells.cls ≠ "java/lang/invoke/MethodHandle" ∧ yX7_isCells.cls ≠ "java/lang/invoke/VarHandle" ∧ (parseMethodDescriptor yX7_isCells.desc).map (fun d => d.parameters.length) = some 0 := by decide +kernel
def f_X7_isCells (h : Hp) (a0 : Nat) : Option Int32 := (f_X7_spelt h (99 : Int32) (101 : Int32) (108 : Int32) (108 : Int32) (115 : Int32)).bind fun x1 => if oK h a0 7 = true then (f_X7_isWord h a0 x1).bind fun x2 => if x2 = 0 ∨ x2 = 1 then some (x2) else none else none
set_option maxHeartbeats 4000000 in
set_option maxRecDepth 100000 in
theorem t_X7_isCells {g : GT} {l : Launch} {h : Hp} {a0 : Nat} {r : Int32} (hf : f_X7_isCells h a0 = some r) : PM g l 2 0 0 yX7_isCells wsX7_isCells [.ref a0] h (fun r9 h9 => r9 = some (.int r) ∧ h9 = h) := by
  refine pm_of (M := m_X7_isCells) (by decide) rfl rfl rfl (Nat.le_of_ble_eq_true rfl) (lo := [some (.ref a0)]) rfl ?_
  rw [f_X7_isCells] at hf
  refine pw_aload_n dX7_isCells_0 rfl ?_
  refine pw_bipush (v := (99)) dX7_isCells_1 (by decide) ?_
  refine pw_bipush (v := (101)) dX7_isCells_3 (by decide) ?_
  refine pw_bipush (v := (108)) dX7_isCells_5 (by decide) ?_
  refine pw_bipush (v := (108)) dX7_isCells_7 (by decide) ?_
  refine pw_bipush (v := (115)) dX7_isCells_9 (by decide) ?_
  refine q_callS_l (kc2 := 0) (ks2 := 0) (as := [.int (99 : Int32), .int (101 : Int32), .int (108 : Int32), .int (108 : Int32), .int (115 : Int32)]) (rest := [.ref a0]) hf (fun x9 e9 => t_X7_spelt e9) gX7_isCells_X7_spelt rfl hd9_X7_spelt rfl ⟨(by decide), by decide⟩ ⟨rfl, rfl⟩ (Nat.le_of_ble_eq_true rfl) dX7_isCells_11 rfl (fun x1 hf => ?_)
  refine q_callV_i (kc2 := 0) (ks2 := 0) (as := [.long x1]) (rest := []) hf (fun x9 e9 => t_X7_isWord e9) gX7_isCells_X7_isWord rfl hd9_X7_isWord rfl rfl ⟨(by decide), by decide⟩ ⟨rfl, rfl⟩ (Nat.le_of_ble_eq_true rfl) dX7_isCells_14 rfl (fun x2 hf => ?_)
  obtain ⟨hb9, hf⟩ := iteN hf
  exact pw_iret (x := x2) rfl (narZ hb9) dX7_isCells_17 ⟨congrArg (fun z => some (Value.int z)) (Option.some.inj hf), rfl⟩
/-! X7_isHole -/
abbrev m_X7_isHole : MD := (cX7_isHole, RX7, "isHole", wsX7_isHole, 1, (some .boolean))
theorem hd9_X7_isHole : yX7_isHole.cls = RX7 ∧ yX7_isHole.cls ≠ "java/lang/invoke/MethodHandle" ∧ yX7_isHole.cls ≠ "java/lang/invoke/VarHandle" ∧ (parseMethodDescriptor yX7_isHole.desc).map (fun d => d.parameters.length) = some 0 := by decide +kernel
def f_X7_isHole (h : Hp) (a0 : Nat) : Option Int32 := (f_X7_spelt h (104 : Int32) (111 : Int32) (108 : Int32) (101 : Int32) (0 : Int32)).bind fun x1 => if oK h a0 7 = true then (f_X7_isWord h a0 x1).bind fun x2 => if x2 = 0 ∨ x2 = 1 then some (x2) else none else none
set_option maxHeartbeats 4000000 in
set_option maxRecDepth 100000 in
theorem t_X7_isHole {g : GT} {l : Launch} {h : Hp} {a0 : Nat} {r : Int32} (hf : f_X7_isHole h a0 = some r) : PM g l 2 0 0 yX7_isHole wsX7_isHole [.ref a0] h (fun r9 h9 => r9 = some (.int r) ∧ h9 = h) := by
  refine pm_of (M := m_X7_isHole) (by decide) rfl rfl rfl (Nat.le_of_ble_eq_true rfl) (lo := [some (.ref a0)]) rfl ?_
  rw [f_X7_isHole] at hf
  refine pw_aload_n dX7_isHole_0 rfl ?_
  refine pw_bipush (v := (104)) dX7_isHole_1 (by decide) ?_
  refine pw_bipush (v := (111)) dX7_isHole_3 (by decide) ?_
  refine pw_bipush (v := (108)) dX7_isHole_5 (by decide) ?_
  refine pw_bipush (v := (101)) dX7_isHole_7 (by decide) ?_
  refine pw_iconst (v := (0)) dX7_isHole_9 (by decide) ?_
  refine q_callS_l (kc2 := 0) (ks2 := 0) (as := [.int (104 : Int32), .int (111 : Int32), .int (108 : Int32), .int (101 : Int32), .int (0 : Int32)]) (rest := [.ref a0]) hf (fun x9 e9 => t_X7_spelt e9) gX7_isHole_X7_spelt rfl hd9_X7_spelt rfl ⟨(by decide), by decide⟩ ⟨rfl, rfl⟩ (Nat.le_of_ble_eq_true rfl) dX7_isHole_10 rfl (fun x1 hf => ?_)
  refine q_callV_i (kc2 := 0) (ks2 := 0) (as := [.long x1]) (rest := []) hf (fun x9 e9 => t_X7_isWord e9) gX7_isHole_X7_isWord rfl hd9_X7_isWord rfl rfl ⟨(by decide), by decide⟩ ⟨rfl, rfl⟩ (Nat.le_of_ble_eq_true rfl) dX7_isHole_13 rfl (fun x2 hf => ?_)
  obtain ⟨hb9, hf⟩ := iteN hf
  exact pw_iret (x := x2) rfl (narZ hb9) dX7_isHole_16 ⟨congrArg (fun z => some (Value.int z)) (Option.some.inj hf), rfl⟩
/-! X7_isPair -/
abbrev m_X7_isPair : MD := (cX7_isPair, RX7, "isPair", wsX7_isPair, 1, (some .boolean))
theorem hd9_X7_isPair : yX7_isPair.cls = RX7 ∧ yX7_isPair.cls ≠ "java/lang/invoke/MethodHandle" ∧ yX7_isPair.cls ≠ "java/lang/invoke/VarHandle" ∧ (parseMethodDescriptor yX7_isPair.desc).map (fun d => d.parameters.length) = some 0 := by decide +kernel
def f_X7_isPair (h : Hp) (a0 : Nat) : Option Int32 := (f_X7_spelt h (112 : Int32) (97 : Int32) (105 : Int32) (114 : Int32) (0 : Int32)).bind fun x1 => if oK h a0 7 = true then (f_X7_isWord h a0 x1).bind fun x2 => if x2 = 0 ∨ x2 = 1 then some (x2) else none else none
set_option maxHeartbeats 4000000 in
set_option maxRecDepth 100000 in
theorem t_X7_isPair {g : GT} {l : Launch} {h : Hp} {a0 : Nat} {r : Int32} (hf : f_X7_isPair h a0 = some r) : PM g l 2 0 0 yX7_isPair wsX7_isPair [.ref a0] h (fun r9 h9 => r9 = some (.int r) ∧ h9 = h) := by
  refine pm_of (M := m_X7_isPair) (by decide) rfl rfl rfl (Nat.le_of_ble_eq_true rfl) (lo := [some (.ref a0)]) rfl ?_
  rw [f_X7_isPair] at hf
  refine pw_aload_n dX7_isPair_0 rfl ?_
  refine pw_bipush (v := (112)) dX7_isPair_1 (by decide) ?_
  refine pw_bipush (v := (97)) dX7_isPair_3 (by decide) ?_
  refine pw_bipush (v := (105)) dX7_isPair_5 (by decide) ?_
  refine pw_bipush (v := (114)) dX7_isPair_7 (by decide) ?_
  refine pw_iconst (v := (0)) dX7_isPair_9 (by decide) ?_
  refine q_callS_l (kc2 := 0) (ks2 := 0) (as := [.int (112 : Int32), .int (97 : Int32), .int (105 : Int32), .int (114 : Int32), .int (0 : Int32)]) (rest := [.ref a0]) hf (fun x9 e9 => t_X7_spelt e9) gX7_isPair_X7_spelt rfl hd9_X7_spelt rfl ⟨(by decide), by decide⟩ ⟨rfl, rfl⟩ (Nat.le_of_ble_eq_true rfl) dX7_isPair_10 rfl (fun x1 hf => ?_)
  refine q_callV_i (kc2 := 0) (ks2 := 0) (as := [.long x1]) (rest := []) hf (fun x9 e9 => t_X7_isWord e9) gX7_isPair_X7_isWord rfl hd9_X7_isWord rfl rfl ⟨(by decide), by decide⟩ ⟨rfl, rfl⟩ (Nat.le_of_ble_eq_true rfl) dX7_isPair_13 rfl (fun x2 hf => ?_)
  obtain ⟨hb9, hf⟩ := iteN hf
  exact pw_iret (x := x2) rfl (narZ hb9) dX7_isPair_16 ⟨congrArg (fun z => some (Value.int z)) (Option.some.inj hf), rfl⟩
/-! X7_isAt -/
abbrev m_X7_isAt : MD := (cX7_isAt, RX7, "isAt", wsX7_isAt, 1, (some .boolean))
theorem hd9_X7_isAt : yX7_isAt.cls = RX7 ∧ yX7_isAt.cls ≠ "java/lang/invoke/MethodHandle" ∧ yX7_isAt.cls ≠ "java/lang/invoke/VarHandle" ∧ (parseMethodDescriptor yX7_isAt.desc).map (fun d => d.parameters.length) = some 0 := by decide +kernel
def f_X7_isAt (h : Hp) (a0 : Nat) : Option Int32 := (f_X7_spelt h (97 : Int32) (116 : Int32) (0 : Int32) (0 : Int32) (0 : Int32)).bind fun x1 => if oK h a0 7 = true then (f_X7_isWord h a0 x1).bind fun x2 => if x2 = 0 ∨ x2 = 1 then some (x2) else none else none
set_option maxHeartbeats 4000000 in
set_option maxRecDepth 100000 in
theorem t_X7_isAt {g : GT} {l : Launch} {h : Hp} {a0 : Nat} {r : Int32} (hf : f_X7_isAt h a0 = some r) : PM g l 2 0 0 yX7_isAt wsX7_isAt [.ref a0] h (fun r9 h9 => r9 = some (.int r) ∧ h9 = h) := by
  refine pm_of (M := m_X7_isAt) (by decide) rfl rfl rfl (Nat.le_of_ble_eq_true rfl) (lo := [some (.ref a0)]) rfl ?_
  rw [f_X7_isAt] at hf
  refine pw_aload_n dX7_isAt_0 rfl ?_
  refine pw_bipush (v := (97)) dX7_isAt_1 (by decide) ?_
  refine pw_bipush (v := (116)) dX7_isAt_3 (by decide) ?_
  refine pw_iconst (v := (0)) dX7_isAt_5 (by decide) ?_
  refine pw_iconst (v := (0)) dX7_isAt_6 (by decide) ?_
  refine pw_iconst (v := (0)) dX7_isAt_7 (by decide) ?_
  refine q_callS_l (kc2 := 0) (ks2 := 0) (as := [.int (97 : Int32), .int (116 : Int32), .int (0 : Int32), .int (0 : Int32), .int (0 : Int32)]) (rest := [.ref a0]) hf (fun x9 e9 => t_X7_spelt e9) gX7_isAt_X7_spelt rfl hd9_X7_spelt rfl ⟨(by decide), by decide⟩ ⟨rfl, rfl⟩ (Nat.le_of_ble_eq_true rfl) dX7_isAt_8 rfl (fun x1 hf => ?_)
  refine q_callV_i (kc2 := 0) (ks2 := 0) (as := [.long x1]) (rest := []) hf (fun x9 e9 => t_X7_isWord e9) gX7_isAt_X7_isWord rfl hd9_X7_isWord rfl rfl ⟨(by decide), by decide⟩ ⟨rfl, rfl⟩ (Nat.le_of_ble_eq_true rfl) dX7_isAt_11 rfl (fun x2 hf => ?_)
  obtain ⟨hb9, hf⟩ := iteN hf
  exact pw_iret (x := x2) rfl (narZ hb9) dX7_isAt_14 ⟨congrArg (fun z => some (Value.int z)) (Option.some.inj hf), rfl⟩
/-! X7_bad -/
abbrev m_X7_bad : MD := (cX7_bad, RX7, "bad", wsX7_bad, 2, (some .boolean))
theorem w9_X7_bad_X7 : ∀ w ∈ u_ws RX7 TX7 31, w ∈ wsX7_bad := by decide +kernel
theorem hd9_X7_bad : yX7_bad.cls = RX7 ∧ yX7_bad.cls ≠ "java/lang/invoke/MethodHandle" ∧ yX7_bad.cls ≠ "java/lang/invoke/VarHandle" ∧ (parseMethodDescriptor yX7_bad.desc).map (fun d => d.parameters.length) = some 1 := by decide +kernel
def f_X7_bad (h : Hp) (a0 : Nat) (a1 : Int32) : Option (Int32 × Hp) := (gI h a0 7 6).bind fun x1 => if x1 = (1 : Int32) then ((pV h a0 7 8 (.int (1 : Int32))).bind fun h5 => (gI h5 a0 7 5).bind fun x6 => (pV h5 a0 7 9 (.int x6)).bind fun h7 => some (((0 : Int32), h7))) else ((pV h a0 7 8 (.int a1)).bind fun h2 => (gI h2 a0 7 5).bind fun x3 => (pV h2 a0 7 9 (.int x3)).bind fun h4 => some (((0 : Int32), h4)))
set_option maxHeartbeats 4000000 in
set_option maxRecDepth 100000 in
theorem t_X7_bad {g : GT} {l : Launch} {h : Hp} {a0 : Nat} {a1 : Int32} {r : (Int32 × Hp)} (hf : f_X7_bad h a0 a1 = some r) : PM g l 1 0 0 yX7_bad wsX7_bad [.ref a0, .int a1] h (fun r9 h9 => r9 = some (.int r.1) ∧ h9 = r.2) := by
  refine pm_of (M := m_X7_bad) (by decide) rfl rfl rfl (Nat.le_of_ble_eq_true rfl) (lo := [some (.ref a0), some (.int a1)]) rfl ?_
  rw [f_X7_bad] at hf
  refine pw_aload_n dX7_bad_0 rfl ?_
  refine pw_aload_n dX7_bad_1 rfl ?_
  refine q_gI hf rfl (by decide) w9_X7_bad_X7 (by decide +kernel) dX7_bad_2 (fun x1 hf => ?_)
  refine pw_iconst (v := (1)) dX7_bad_5 (by decide) ?_
  refine q_icmp_ne (tgt := 13) hf dX7_bad_6 (by decide) (fun hf _ => ?_) (fun hf _ => ?_)
  · refine pw_iload_n dX7_bad_13 rfl ?_
    refine q_pV (ty := .int) hf tyX7 tyX7_ok nmX7 rfl (by decide) w9_X7_bad_X7 (by decide +kernel) rfl (by decide +kernel) rfl rfl dX7_bad_14 (fun h2 hf => ?_)
    refine pw_aload_n dX7_bad_17 rfl ?_
    refine pw_aload_n dX7_bad_18 rfl ?_
    refine q_gI hf rfl (by decide) w9_X7_bad_X7 (by decide +kernel) dX7_bad_19 (fun x3 hf => ?_)
    refine q_pV (ty := .int) hf tyX7 tyX7_ok nmX7 rfl (by decide) w9_X7_bad_X7 (by decide +kernel) rfl (by decide +kernel) rfl rfl dX7_bad_22 (fun h4 hf => ?_)
    refine pw_iconst (v := (0)) dX7_bad_25 (by decide) ?_
    exact pw_iret (x := (0 : Int32)) rfl rfl dX7_bad_26 (ret_iw hf)
  · refine pw_iconst (v := (1)) dX7_bad_9 (by decide) ?_
    refine pw_goto (tgt := 14) dX7_bad_10 (by decide) ?_
    refine q_pV (ty := .int) hf tyX7 tyX7_ok nmX7 rfl (by decide) w9_X7_bad_X7 (by decide +kernel) rfl (by decide +kernel) rfl rfl dX7_bad_14 (fun h5 hf => ?_)
    refine pw_aload_n dX7_bad_17 rfl ?_
    refine pw_aload_n dX7_bad_18 rfl ?_
    refine q_gI hf rfl (by decide) w9_X7_bad_X7 (by decide +kernel) dX7_bad_19 (fun x6 hf => ?_)
    refine q_pV (ty := .int) hf tyX7 tyX7_ok nmX7 rfl (by decide) w9_X7_bad_X7 (by decide +kernel) rfl (by decide +kernel) rfl rfl dX7_bad_22 (fun h7 hf => ?_)
    refine pw_iconst (v := (0)) dX7_bad_25 (by decide) ?_
    exact pw_iret (x := (0 : Int32)) rfl rfl dX7_bad_26 (ret_iw hf)
/-! X7_isNumber -/
abbrev m_X7_isNumber : MD := (cX7_isNumber, RX7, "isNumber", wsX7_isNumber, 3, (some .boolean))
theorem w9_X7_isNumber_X7 : ∀ w ∈ u_ws RX7 TX7 31, w ∈ wsX7_isNumber := by decide +kernel
theorem hd9_X7_isNumber : yX7_isNumber.cls = RX7 ∧ yX7_isNumber.cls ≠ "java/lang/invoke/MethodHandle" ∧ yX7_isNumber.cls ≠ "java/lang/invoke/VarHandle" ∧ (parseMethodDescriptor yX7_isNumber.desc).map (fun d => d.parameters.length) = some 2 := by decide +kernel
def f_X7_isNumber (h : Hp) (a0 : Nat) (a1 : Int32) (a2 : Int32) : Option (Int32 × Hp) := (gI h a0 7 6).bind fun x1 => if x1 = (3 : Int32) then ((gI h a0 7 7).bind fun x2 => (f_X7_isIn h x2 a1 a2).bind fun x3 => if x3 = 0 then (if oK h a0 7 = true then (f_X7_bad h a0 (2 : Int32)).bind fun x4 => if x4.1 = 0 then (some (((0 : Int32), x4.2))) else (some (((1 : Int32), x4.2))) else none) else (some (((1 : Int32), h)))) else (if oK h a0 7 = true then (f_X7_bad h a0 (1 : Int32)).bind fun x5 => if x5.1 = 0 ∨ x5.1 = 1 then some ((x5.1, x5.2)) else none else none)
set_option maxHeartbeats 4000000 in
set_option maxRecDepth 100000 in
theorem t_X7_isNumber {g : GT} {l : Launch} {h : Hp} {a0 : Nat} {a1 : Int32} {a2 : Int32} {r : (Int32 × Hp)} (hf : f_X7_isNumber h a0 a1 a2 = some r) : PM g l 2 0 0 yX7_isNumber wsX7_isNumber [.ref a0, .int a1, .int a2] h (fun r9 h9 => r9 = some (.int r.1) ∧ h9 = r.2) := by
  refine pm_of (M := m_X7_isNumber) (by decide) rfl rfl rfl (Nat.le_of_ble_eq_true rfl) (lo := [some (.ref a0), some (.int a1), some (.int a2)]) rfl ?_
  rw [f_X7_isNumber] at hf
  refine pw_aload_n dX7_isNumber_0 rfl ?_
  refine q_gI hf rfl (by decide) w9_X7_isNumber_X7 (by decide +kernel) dX7_isNumber_1 (fun x1 hf => ?_)
  refine pw_iconst (v := (3)) dX7_isNumber_4 (by decide) ?_
  refine q_icmp_eq (tgt := 14) hf dX7_isNumber_5 (by decide) (fun hf _ => ?_) (fun hf _ => ?_)
  · refine pw_aload_n dX7_isNumber_14 rfl ?_
    refine q_gI hf rfl (by decide) w9_X7_isNumber_X7 (by decide +kernel) dX7_isNumber_15 (fun x2 hf => ?_)
    refine pw_iload_n dX7_isNumber_18 rfl ?_
    refine pw_iload_n dX7_isNumber_19 rfl ?_
    refine q_callS_i (kc2 := 0) (ks2 := 0) (as := [.int x2, .int a1, .int a2]) (rest := []) hf (fun x9 e9 => t_X7_isIn e9) gX7_isNumber_X7_isIn rfl hd9_X7_isIn rfl ⟨(by decide), by decide⟩ ⟨rfl, rfl⟩ (Nat.le_of_ble_eq_true rfl) dX7_isNumber_20 rfl (fun x3 hf => ?_)
    refine q_if_ne (tgt := 34) hf dX7_isNumber_23 (by decide) (fun hf _ => ?_) (fun hf _ => ?_)
    · refine pw_iconst (v := (1)) dX7_isNumber_34 (by decide) ?_
      refine pw_goto (tgt := 39) dX7_isNumber_35 (by decide) ?_
      exact pw_iret (x := (1 : Int32)) rfl rfl dX7_isNumber_39 (ret_iw hf)
    · refine pw_aload_n dX7_isNumber_26 rfl ?_
      refine pw_iconst (v := (2)) dX7_isNumber_27 (by decide) ?_
      refine q_callV_iw (kc2 := 0) (ks2 := 0) (as := [.int (2 : Int32)]) (rest := []) hf (fun x9 e9 => t_X7_bad e9) gX7_isNumber_X7_bad rfl hd9_X7_bad rfl rfl ⟨(by decide), by decide⟩ ⟨rfl, rfl⟩ (Nat.le_of_ble_eq_true rfl) dX7_isNumber_28 rfl (fun x4 hf => ?_)
      refine q_if_eq (tgt := 38) hf dX7_isNumber_31 (by decide) (fun hf _ => ?_) (fun hf _ => ?_)
      · refine pw_iconst (v := (0)) dX7_isNumber_38 (by decide) ?_
        exact pw_iret (x := (0 : Int32)) rfl rfl dX7_isNumber_39 (ret_iw hf)
      · refine pw_iconst (v := (1)) dX7_isNumber_34 (by decide) ?_
        refine pw_goto (tgt := 39) dX7_isNumber_35 (by decide) ?_
        exact pw_iret (x := (1 : Int32)) rfl rfl dX7_isNumber_39 (ret_iw hf)
  · refine pw_aload_n dX7_isNumber_8 rfl ?_
    refine pw_iconst (v := (1)) dX7_isNumber_9 (by decide) ?_
    refine q_callV_iw (kc2 := 0) (ks2 := 0) (as := [.int (1 : Int32)]) (rest := []) hf (fun x9 e9 => t_X7_bad e9) gX7_isNumber_X7_bad rfl hd9_X7_bad rfl rfl ⟨(by decide), by decide⟩ ⟨rfl, rfl⟩ (Nat.le_of_ble_eq_true rfl) dX7_isNumber_10 rfl (fun x5 hf => ?_)
    obtain ⟨hb9, hf⟩ := iteN hf
    exact pw_iret (x := x5.1) rfl (narZ hb9) dX7_isNumber_13 (ret_iw hf)
/-! X7_init -/
abbrev m_X7_init : MD := (cX7_init, RX7, "<init>", wsX7_init, 1, none)
theorem w9_X7_init_X7 : ∀ w ∈ u_ws RX7 TX7 31, w ∈ wsX7_init := by decide +kernel
theorem hd9_X7_init : yX7_init.cls = RX7 ∧ yX7_init.cls ≠ "java/lang/invoke/MethodHandle" ∧ yX7_init.cls ≠ "java/lang/invoke/VarHandle" ∧ (parseMethodDescriptor yX7_init.desc).map (fun d => d.parameters.length) = some 0 := by decide +kernel
def f_X7_init (h : Hp) (a0 : Nat) : Option Hp := (nA h 0 340 (340 : Int32)).bind fun x1 => (pV x1.2 a0 7 1 (.ref x1.1)).bind fun h2 => (nA h2 0 19 (19 : Int32)).bind fun x3 => (pV x3.2 a0 7 11 (.ref x3.1)).bind fun h4 => (nA h4 0 19 (19 : Int32)).bind fun x5 => (pV x5.2 a0 7 12 (.ref x5.1)).bind fun h6 => (nA h6 0 38 (38 : Int32)).bind fun x7 => (pV x7.2 a0 7 13 (.ref x7.1)).bind fun h8 => (nA h8 0 152 (152 : Int32)).bind fun x9 => (pV x9.2 a0 7 14 (.ref x9.1)).bind fun h10 => (nA h10 0 19 (19 : Int32)).bind fun x11 => (pV x11.2 a0 7 15 (.ref x11.1)).bind fun h12 => (nA h12 0 19 (19 : Int32)).bind fun x13 => (pV x13.2 a0 7 16 (.ref x13.1)).bind fun h14 => (nA h14 0 19 (19 : Int32)).bind fun x15 => (pV x15.2 a0 7 17 (.ref x15.1)).bind fun h16 => (nA h16 3 2 (2 : Int32)).bind fun x17 => (pV x17.2 a0 7 18 (.ref x17.1)).bind fun h18 => (nA h18 0 18 (18 : Int32)).bind fun x19 => (pV x19.2 a0 7 20 (.ref x19.1)).bind fun h20 => (nA h20 0 18 (18 : Int32)).bind fun x21 => (pV x21.2 a0 7 21 (.ref x21.1)).bind fun h22 => (nA h22 0 18 (18 : Int32)).bind fun x23 => (pV x23.2 a0 7 22 (.ref x23.1)).bind fun h24 => (nA h24 0 320 (320 : Int32)).bind fun x25 => (pV x25.2 a0 7 23 (.ref x25.1)).bind fun h26 => (nA h26 0 121 (121 : Int32)).bind fun x27 => (pV x27.2 a0 7 27 (.ref x27.1)).bind fun h28 => (pV h28 a0 7 28 (.int (-1 : Int32))).bind fun h29 => (nA h29 0 121 (121 : Int32)).bind fun x30 => (pV x30.2 a0 7 29 (.ref x30.1)).bind fun h31 => some h31
theorem hd8_X7_init : yX7_init.cls ≠ "java/lang/invoke/MethodHandle" ∧ yX7_init.cls ≠ "java/lang/invoke/VarHandle" ∧ (parseMethodDescriptor yX7_init.desc).map (fun d => d.parameters.length) = some 0 := hd9_X7_init.2
set_option maxHeartbeats 4000000 in
set_option maxRecDepth 100000 in
theorem t_X7_init {g : GT} {l : Launch} {h : Hp} {a0 : Nat} {r : Hp} (hf : f_X7_init h a0 = some r) : PM g l 1 15 1243 yX7_init wsX7_init [.ref a0] h (fun r9 h9 => r9 = none ∧ h9 = r) := by
  refine pm_of (M := m_X7_init) (by decide) rfl rfl rfl (Nat.le_of_ble_eq_true rfl) (lo := [some (.ref a0)]) rfl ?_
  rw [f_X7_init] at hf
  refine pw_aload_n dX7_init_0 rfl ?_
  refine pw_obj (by decide +kernel) (by decide +kernel) (by decide +kernel) (by decide) (Nat.le_of_ble_eq_true rfl) dX7_init_1 ?_
  refine pw_aload_n dX7_init_4 rfl ?_
  refine pw_sipush (v := (340)) dX7_init_5 (by decide) ?_
  refine q_newa (kc2 := 14) (ks2 := 903) hf (by decide) rfl (by decide +kernel) (by decide) ⟨rfl, rfl⟩ dX7_init_8 (fun x1 hf => ?_)
  refine q_pVF (ty := .array .int) hf tyX7 tyX7_ok nmX7 rfl (by decide) w9_X7_init_X7 (by decide +kernel) rfl rfl rfl (by decide +kernel) rfl rfl dX7_init_10 (fun h2 hf => ?_)
  refine pw_aload_n dX7_init_13 rfl ?_
  refine pw_bipush (v := (19)) dX7_init_14 (by decide) ?_
  refine q_newa (kc2 := 13) (ks2 := 884) hf (by decide) rfl (by decide +kernel) (by decide) ⟨rfl, rfl⟩ dX7_init_16 (fun x3 hf => ?_)
  refine q_pVF (ty := .array .int) hf tyX7 tyX7_ok nmX7 rfl (by decide) w9_X7_init_X7 (by decide +kernel) rfl rfl rfl (by decide +kernel) rfl rfl dX7_init_18 (fun h4 hf => ?_)
  refine pw_aload_n dX7_init_21 rfl ?_
  refine pw_bipush (v := (19)) dX7_init_22 (by decide) ?_
  refine q_newa (kc2 := 12) (ks2 := 865) hf (by decide) rfl (by decide +kernel) (by decide) ⟨rfl, rfl⟩ dX7_init_24 (fun x5 hf => ?_)
  refine q_pVF (ty := .array .int) hf tyX7 tyX7_ok nmX7 rfl (by decide) w9_X7_init_X7 (by decide +kernel) rfl rfl rfl (by decide +kernel) rfl rfl dX7_init_26 (fun h6 hf => ?_)
  refine pw_aload_n dX7_init_29 rfl ?_
  refine pw_bipush (v := (38)) dX7_init_30 (by decide) ?_
  refine q_newa (kc2 := 11) (ks2 := 827) hf (by decide) rfl (by decide +kernel) (by decide) ⟨rfl, rfl⟩ dX7_init_32 (fun x7 hf => ?_)
  refine q_pVF (ty := .array .int) hf tyX7 tyX7_ok nmX7 rfl (by decide) w9_X7_init_X7 (by decide +kernel) rfl rfl rfl (by decide +kernel) rfl rfl dX7_init_34 (fun h8 hf => ?_)
  refine pw_aload_n dX7_init_37 rfl ?_
  refine pw_sipush (v := (152)) dX7_init_38 (by decide) ?_
  refine q_newa (kc2 := 10) (ks2 := 675) hf (by decide) rfl (by decide +kernel) (by decide) ⟨rfl, rfl⟩ dX7_init_41 (fun x9 hf => ?_)
  refine q_pVF (ty := .array .int) hf tyX7 tyX7_ok nmX7 rfl (by decide) w9_X7_init_X7 (by decide +kernel) rfl rfl rfl (by decide +kernel) rfl rfl dX7_init_43 (fun h10 hf => ?_)
  refine pw_aload_n dX7_init_46 rfl ?_
  refine pw_bipush (v := (19)) dX7_init_47 (by decide) ?_
  refine q_newa (kc2 := 9) (ks2 := 656) hf (by decide) rfl (by decide +kernel) (by decide) ⟨rfl, rfl⟩ dX7_init_49 (fun x11 hf => ?_)
  refine q_pVF (ty := .array .int) hf tyX7 tyX7_ok nmX7 rfl (by decide) w9_X7_init_X7 (by decide +kernel) rfl rfl rfl (by decide +kernel) rfl rfl dX7_init_51 (fun h12 hf => ?_)
  refine pw_aload_n dX7_init_54 rfl ?_
  refine pw_bipush (v := (19)) dX7_init_55 (by decide) ?_
  refine q_newa (kc2 := 8) (ks2 := 637) hf (by decide) rfl (by decide +kernel) (by decide) ⟨rfl, rfl⟩ dX7_init_57 (fun x13 hf => ?_)
  refine q_pVF (ty := .array .int) hf tyX7 tyX7_ok nmX7 rfl (by decide) w9_X7_init_X7 (by decide +kernel) rfl rfl rfl (by decide +kernel) rfl rfl dX7_init_59 (fun h14 hf => ?_)
  refine pw_aload_n dX7_init_62 rfl ?_
  refine pw_bipush (v := (19)) dX7_init_63 (by decide) ?_
  refine q_newa (kc2 := 7) (ks2 := 618) hf (by decide) rfl (by decide +kernel) (by decide) ⟨rfl, rfl⟩ dX7_init_65 (fun x15 hf => ?_)
  refine q_pVF (ty := .array .int) hf tyX7 tyX7_ok nmX7 rfl (by decide) w9_X7_init_X7 (by decide +kernel) rfl rfl rfl (by decide +kernel) rfl rfl dX7_init_67 (fun h16 hf => ?_)
  refine pw_aload_n dX7_init_70 rfl ?_
  refine pw_iconst (v := (2)) dX7_init_71 (by decide) ?_
  refine q_newa (kc2 := 6) (ks2 := 616) hf (by decide) rfl (by decide +kernel) (by decide) ⟨rfl, rfl⟩ dX7_init_72 (fun x17 hf => ?_)
  refine q_pVF (ty := .array .boolean) hf tyX7 tyX7_ok nmX7 rfl (by decide) w9_X7_init_X7 (by decide +kernel) rfl rfl rfl (by decide +kernel) rfl rfl dX7_init_74 (fun h18 hf => ?_)
  refine pw_aload_n dX7_init_77 rfl ?_
  refine pw_bipush (v := (18)) dX7_init_78 (by decide) ?_
  refine q_newa (kc2 := 5) (ks2 := 598) hf (by decide) rfl (by decide +kernel) (by decide) ⟨rfl, rfl⟩ dX7_init_80 (fun x19 hf => ?_)
  refine q_pVF (ty := .array .int) hf tyX7 tyX7_ok nmX7 rfl (by decide) w9_X7_init_X7 (by decide +kernel) rfl rfl rfl (by decide +kernel) rfl rfl dX7_init_82 (fun h20 hf => ?_)
  refine pw_aload_n dX7_init_85 rfl ?_
  refine pw_bipush (v := (18)) dX7_init_86 (by decide) ?_
  refine q_newa (kc2 := 4) (ks2 := 580) hf (by decide) rfl (by decide +kernel) (by decide) ⟨rfl, rfl⟩ dX7_init_88 (fun x21 hf => ?_)
  refine q_pVF (ty := .array .int) hf tyX7 tyX7_ok nmX7 rfl (by decide) w9_X7_init_X7 (by decide +kernel) rfl rfl rfl (by decide +kernel) rfl rfl dX7_init_90 (fun h22 hf => ?_)
  refine pw_aload_n dX7_init_93 rfl ?_
  refine pw_bipush (v := (18)) dX7_init_94 (by decide) ?_
  refine q_newa (kc2 := 3) (ks2 := 562) hf (by decide) rfl (by decide +kernel) (by decide) ⟨rfl, rfl⟩ dX7_init_96 (fun x23 hf => ?_)
  refine q_pVF (ty := .array .int) hf tyX7 tyX7_ok nmX7 rfl (by decide) w9_X7_init_X7 (by decide +kernel) rfl rfl rfl (by decide +kernel) rfl rfl dX7_init_98 (fun h24 hf => ?_)
  refine pw_aload_n dX7_init_101 rfl ?_
  refine pw_sipush (v := (320)) dX7_init_102 (by decide) ?_
  refine q_newa (kc2 := 2) (ks2 := 242) hf (by decide) rfl (by decide +kernel) (by decide) ⟨rfl, rfl⟩ dX7_init_105 (fun x25 hf => ?_)
  refine q_pVF (ty := .array .int) hf tyX7 tyX7_ok nmX7 rfl (by decide) w9_X7_init_X7 (by decide +kernel) rfl rfl rfl (by decide +kernel) rfl rfl dX7_init_107 (fun h26 hf => ?_)
  refine pw_aload_n dX7_init_110 rfl ?_
  refine pw_bipush (v := (121)) dX7_init_111 (by decide) ?_
  refine q_newa (kc2 := 1) (ks2 := 121) hf (by decide) rfl (by decide +kernel) (by decide) ⟨rfl, rfl⟩ dX7_init_113 (fun x27 hf => ?_)
  refine q_pVF (ty := .array .int) hf tyX7 tyX7_ok nmX7 rfl (by decide) w9_X7_init_X7 (by decide +kernel) rfl rfl rfl (by decide +kernel) rfl rfl dX7_init_115 (fun h28 hf => ?_)
  refine pw_aload_n dX7_init_118 rfl ?_
  refine pw_iconst (v := (-1)) dX7_init_119 (by decide) ?_
  refine q_pV (ty := .int) hf tyX7 tyX7_ok nmX7 rfl (by decide) w9_X7_init_X7 (by decide +kernel) rfl (by decide +kernel) rfl rfl dX7_init_120 (fun h29 hf => ?_)
  refine pw_aload_n dX7_init_123 rfl ?_
  refine pw_bipush (v := (121)) dX7_init_124 (by decide) ?_
  refine q_newa (kc2 := 0) (ks2 := 0) hf (by decide) rfl (by decide +kernel) (by decide) ⟨rfl, rfl⟩ dX7_init_126 (fun x30 hf => ?_)
  refine q_pVF (ty := .array .int) hf tyX7 tyX7_ok nmX7 rfl (by decide) w9_X7_init_X7 (by decide +kernel) rfl rfl rfl (by decide +kernel) rfl rfl dX7_init_128 (fun h31 hf => ?_)
  exact pw_vret rfl dX7_init_131 ⟨rfl, Option.some.inj hf⟩
