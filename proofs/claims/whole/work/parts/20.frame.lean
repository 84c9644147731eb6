/-! X6_bit -/
abbrev m_X6_bit : MD := (cX6_bit, RX6, "bit", wsX6_bit, 1, (some .int))
theorem hd9_X6_bit : yX6_bit.cls ≠ "java/lang/invoke/MethodHandle" ∧ yX6_bit.cls ≠ "java/lang/invoke/VarHandle" ∧ (parseMethodDescriptor yX6_bit.desc).map (fun d => d.parameters.length) = some 1 := by decide +kernel
def f_X6_bit (h : Hp) (a0 : Int32) : Option Int32 := some ((1 : Int32) <<< ((a0 - (1 : Int32)) &&& 31))
set_option maxHeartbeats 4000000 in
set_option maxRecDepth 100000 in
theorem t_X6_bit {g : GT} {l : Launch} {h : Hp} {a0 : Int32} {r : Int32} (hf : f_X6_bit h a0 = some r) : PM g l 1 0 0 yX6_bit wsX6_bit [.int a0] h (fun r9 h9 => r9 = some (.int r) ∧ h9 = h) := by
  refine pm_of (M := m_X6_bit) (by decide) rfl rfl rfl (Nat.le_of_ble_eq_true rfl) (lo := [some (.int a0)]) rfl ?_
  rw [f_X6_bit] at hf
  refine pw_iconst (v := (1)) dX6_bit_0 (by decide) ?_
  refine pw_iload_n dX6_bit_1 rfl ?_
  refine pw_iconst (v := (1)) dX6_bit_2 (by decide) ?_
  refine pw_isub dX6_bit_3 ?_
  refine pw_ishl dX6_bit_4 ?_
  exact pw_iret (x := (1 : Int32) <<< ((a0 - (1 : Int32)) &&& 31)) rfl rfl dX6_bit_5 ⟨congrArg (fun z => some (Value.int z)) (Option.some.inj hf), rfl⟩
/-! X2_hasPlace -/
abbrev m_X2_hasPlace : MD := (cX2_hasPlace, RX2, "hasPlace", wsX2_hasPlace, 2, (some .boolean))
theorem w9_X2_hasPlace_X2 : ∀ w ∈ u_ws RX2 TX2 4, w ∈ wsX2_hasPlace := by decide +kernel
theorem hd9_X2_hasPlace : yX2_hasPlace.cls = RX2 ∧ yX2_hasPlace.cls ≠ "java/lang/invoke/MethodHandle" ∧ yX2_hasPlace.cls ≠ "java/lang/invoke/VarHandle" ∧ (parseMethodDescriptor yX2_hasPlace.desc).map (fun d => d.parameters.length) = some 1 := by decide +kernel
def f_X2_hasPlace (h : Hp) (a0 : Nat) (a1 : Int32) : Option Int32 := if a1 < (1 : Int32) then (some ((0 : Int32))) else ((gI h a0 2 0).bind fun x1 => if x1 < a1 then (some ((0 : Int32))) else (some ((1 : Int32))))
set_option maxHeartbeats 4000000 in
set_option maxRecDepth 100000 in
theorem t_X2_hasPlace {g : GT} {l : Launch} {h : Hp} {a0 : Nat} {a1 : Int32} {r : Int32} (hf : f_X2_hasPlace h a0 a1 = some r) : PM g l 1 0 0 yX2_hasPlace wsX2_hasPlace [.ref a0, .int a1] h (fun r9 h9 => r9 = some (.int r) ∧ h9 = h) := by
  refine pm_of (M := m_X2_hasPlace) (by decide) rfl rfl rfl (Nat.le_of_ble_eq_true rfl) (lo := [some (.ref a0), some (.int a1)]) rfl ?_
  rw [f_X2_hasPlace] at hf
  refine pw_iload_n dX2_hasPlace_0 rfl ?_
  refine pw_iconst (v := (1)) dX2_hasPlace_1 (by decide) ?_
  refine q_icmp_lt (tgt := 17) hf dX2_hasPlace_2 (by decide) (fun hf _ => ?_) (fun hf _ => ?_)
  · refine pw_iconst (v := (0)) dX2_hasPlace_17 (by decide) ?_
    exact pw_iret (x := (0 : Int32)) rfl rfl dX2_hasPlace_18 ⟨congrArg (fun z => some (Value.int z)) (Option.some.inj hf), rfl⟩
  · refine pw_iload_n dX2_hasPlace_5 rfl ?_
    refine pw_aload_n dX2_hasPlace_6 rfl ?_
    refine q_gI hf rfl (by decide) w9_X2_hasPlace_X2 (by decide +kernel) dX2_hasPlace_7 (fun x1 hf => ?_)
    refine q_icmp_gt (tgt := 17) hf dX2_hasPlace_10 (by decide) (fun hf _ => ?_) (fun hf _ => ?_)
    · refine pw_iconst (v := (0)) dX2_hasPlace_17 (by decide) ?_
      exact pw_iret (x := (0 : Int32)) rfl rfl dX2_hasPlace_18 ⟨congrArg (fun z => some (Value.int z)) (Option.some.inj hf), rfl⟩
    · refine pw_iconst (v := (1)) dX2_hasPlace_13 (by decide) ?_
      refine pw_goto (tgt := 18) dX2_hasPlace_14 (by decide) ?_
      exact pw_iret (x := (1 : Int32)) rfl rfl dX2_hasPlace_18 ⟨congrArg (fun z => some (Value.int z)) (Option.some.inj hf), rfl⟩
/-! X2_hasHole -/
abbrev m_X2_hasHole : MD := (cX2_hasHole, RX2, "hasHole", wsX2_hasHole, 2, (some .boolean))
theorem w9_X2_hasHole_X2 : ∀ w ∈ u_ws RX2 TX2 4, w ∈ wsX2_hasHole := by decide +kernel
theorem hd9_X2_hasHole : yX2_hasHole.cls = RX2 ∧ yX2_hasHole.cls ≠ "java/lang/invoke/MethodHandle" ∧ yX2_hasHole.cls ≠ "java/lang/invoke/VarHandle" ∧ (parseMethodDescriptor yX2_hasHole.desc).map (fun d => d.parameters.length) = some 1 := by decide +kernel
def f_X2_hasHole (h : Hp) (a0 : Nat) (a1 : Int32) : Option Int32 := if oK h a0 2 = true then (f_X2_hasPlace h a0 a1).bind fun x1 => if x1 = 0 then (some ((0 : Int32))) else ((gI h a0 2 1).bind fun x2 => (f_X6_bit h a1).bind fun x3 => if (x2 &&& x3) = 0 then (some ((0 : Int32))) else (some ((1 : Int32)))) else none
set_option maxHeartbeats 4000000 in
set_option maxRecDepth 100000 in
theorem t_X2_hasHole {g : GT} {l : Launch} {h : Hp} {a0 : Nat} {a1 : Int32} {r : Int32} (hf : f_X2_hasHole h a0 a1 = some r) : PM g l 2 0 0 yX2_hasHole wsX2_hasHole [.ref a0, .int a1] h (fun r9 h9 => r9 = some (.int r) ∧ h9 = h) := by
  refine pm_of (M := m_X2_hasHole) (by decide) rfl rfl rfl (Nat.le_of_ble_eq_true rfl) (lo := [some (.ref a0), some (.int a1)]) rfl ?_
  rw [f_X2_hasHole] at hf
  refine pw_aload_n dX2_hasHole_0 rfl ?_
  refine pw_iload_n dX2_hasHole_1 rfl ?_
  refine q_callV_i (kc2 := 0) (ks2 := 0) (as := [.int a1]) (rest := []) hf (fun x9 e9 => t_X2_hasPlace e9) gX2_hasHole_X2_hasPlace rfl hd9_X2_hasPlace rfl rfl ⟨(by decide), by decide⟩ ⟨rfl, rfl⟩ (Nat.le_of_ble_eq_true rfl) dX2_hasHole_2 rfl (fun x1 hf => ?_)
  refine q_if_eq (tgt := 24) hf dX2_hasHole_5 (by decide) (fun hf _ => ?_) (fun hf _ => ?_)
  · refine pw_iconst (v := (0)) dX2_hasHole_24 (by decide) ?_
    exact pw_iret (x := (0 : Int32)) rfl rfl dX2_hasHole_25 ⟨congrArg (fun z => some (Value.int z)) (Option.some.inj hf), rfl⟩
  · refine pw_aload_n dX2_hasHole_8 rfl ?_
    refine q_gI hf rfl (by decide) w9_X2_hasHole_X2 (by decide +kernel) dX2_hasHole_9 (fun x2 hf => ?_)
    refine pw_iload_n dX2_hasHole_12 rfl ?_
    refine q_callSN_i (host := "TwinRows") (kc2 := 0) (ks2 := 0) (as := [.int a1]) (rest := [.int x2]) hf (fun x9 e9 => t_X6_bit e9) gX2_hasHole_X6_bit_n41 (by decide +kernel) (by decide +kernel) (by decide +kernel) rfl hd9_X6_bit rfl ⟨(by decide), by decide⟩ ⟨rfl, rfl⟩ (Nat.le_of_ble_eq_true rfl) dX2_hasHole_13 rfl (fun x3 hf => ?_)
    refine pw_iand dX2_hasHole_16 ?_
    refine q_if_eq (tgt := 24) hf dX2_hasHole_17 (by decide) (fun hf _ => ?_) (fun hf _ => ?_)
    · refine pw_iconst (v := (0)) dX2_hasHole_24 (by decide) ?_
      exact pw_iret (x := (0 : Int32)) rfl rfl dX2_hasHole_25 ⟨congrArg (fun z => some (Value.int z)) (Option.some.inj hf), rfl⟩
    · refine pw_iconst (v := (1)) dX2_hasHole_20 (by decide) ?_
      refine pw_goto (tgt := 25) dX2_hasHole_21 (by decide) ?_
      exact pw_iret (x := (1 : Int32)) rfl rfl dX2_hasHole_25 ⟨congrArg (fun z => some (Value.int z)) (Option.some.inj hf), rfl⟩
/-! X2_hasPair -/
abbrev m_X2_hasPair : MD := (cX2_hasPair, RX2, "hasPair", wsX2_hasPair, 2, (some .boolean))
theorem w9_X2_hasPair_X2 : ∀ w ∈ u_ws RX2 TX2 4, w ∈ wsX2_hasPair := by decide +kernel
theorem hd9_X2_hasPair : yX2_hasPair.cls = RX2 ∧ yX2_hasPair.cls ≠ "java/lang/invoke/MethodHandle" ∧ yX2_hasPair.cls ≠ "java/lang/invoke/VarHandle" ∧ (parseMethodDescriptor yX2_hasPair.desc).map (fun d => d.parameters.length) = some 1 := by decide +kernel
def f_X2_hasPair (h : Hp) (a0 : Nat) (a1 : Int32) : Option Int32 := if a1 < (1 : Int32) then (some ((0 : Int32))) else (if (15 : Int32) < a1 then (some ((0 : Int32))) else ((gI h a0 2 2).bind fun x1 => (f_X6_bit h a1).bind fun x2 => if (x1 &&& x2) = 0 then (some ((0 : Int32))) else (some ((1 : Int32)))))
set_option maxHeartbeats 4000000 in
set_option maxRecDepth 100000 in
theorem t_X2_hasPair {g : GT} {l : Launch} {h : Hp} {a0 : Nat} {a1 : Int32} {r : Int32} (hf : f_X2_hasPair h a0 a1 = some r) : PM g l 2 0 0 yX2_hasPair wsX2_hasPair [.ref a0, .int a1] h (fun r9 h9 => r9 = some (.int r) ∧ h9 = h) := by
  refine pm_of (M := m_X2_hasPair) (by decide) rfl rfl rfl (Nat.le_of_ble_eq_true rfl) (lo := [some (.ref a0), some (.int a1)]) rfl ?_
  rw [f_X2_hasPair] at hf
  refine pw_iload_n dX2_hasPair_0 rfl ?_
  refine pw_iconst (v := (1)) dX2_hasPair_1 (by decide) ?_
  refine q_icmp_lt (tgt := 27) hf dX2_hasPair_2 (by decide) (fun hf _ => ?_) (fun hf _ => ?_)
  · refine pw_iconst (v := (0)) dX2_hasPair_27 (by decide) ?_
    exact pw_iret (x := (0 : Int32)) rfl rfl dX2_hasPair_28 ⟨congrArg (fun z => some (Value.int z)) (Option.some.inj hf), rfl⟩
  · refine pw_iload_n dX2_hasPair_5 rfl ?_
    refine pw_bipush (v := (15)) dX2_hasPair_6 (by decide) ?_
    refine q_icmp_gt (tgt := 27) hf dX2_hasPair_8 (by decide) (fun hf _ => ?_) (fun hf _ => ?_)
    · refine pw_iconst (v := (0)) dX2_hasPair_27 (by decide) ?_
      exact pw_iret (x := (0 : Int32)) rfl rfl dX2_hasPair_28 ⟨congrArg (fun z => some (Value.int z)) (Option.some.inj hf), rfl⟩
    · refine pw_aload_n dX2_hasPair_11 rfl ?_
      refine q_gI hf rfl (by decide) w9_X2_hasPair_X2 (by decide +kernel) dX2_hasPair_12 (fun x1 hf => ?_)
      refine pw_iload_n dX2_hasPair_15 rfl ?_
      refine q_callSN_i (host := "TwinRows") (kc2 := 0) (ks2 := 0) (as := [.int a1]) (rest := [.int x1]) hf (fun x9 e9 => t_X6_bit e9) gX2_hasPair_X6_bit_n41 (by decide +kernel) (by decide +kernel) (by decide +kernel) rfl hd9_X6_bit rfl ⟨(by decide), by decide⟩ ⟨rfl, rfl⟩ (Nat.le_of_ble_eq_true rfl) dX2_hasPair_16 rfl (fun x2 hf => ?_)
      refine pw_iand dX2_hasPair_19 ?_
      refine q_if_eq (tgt := 27) hf dX2_hasPair_20 (by decide) (fun hf _ => ?_) (fun hf _ => ?_)
      · refine pw_iconst (v := (0)) dX2_hasPair_27 (by decide) ?_
        exact pw_iret (x := (0 : Int32)) rfl rfl dX2_hasPair_28 ⟨congrArg (fun z => some (Value.int z)) (Option.some.inj hf), rfl⟩
      · refine pw_iconst (v := (1)) dX2_hasPair_23 (by decide) ?_
        refine pw_goto (tgt := 28) dX2_hasPair_24 (by decide) ?_
        exact pw_iret (x := (1 : Int32)) rfl rfl dX2_hasPair_28 ⟨congrArg (fun z => some (Value.int z)) (Option.some.inj hf), rfl⟩
/-! X2_placesToFill -/
abbrev m_X2_placesToFill : MD := (cX2_placesToFill, RX2, "placesToFill", wsX2_placesToFill, 1, (some .int))
theorem w9_X2_placesToFill_X2 : ∀ w ∈ u_ws RX2 TX2 4, w ∈ wsX2_placesToFill := by decide +kernel
theorem hd9_X2_placesToFill : yX2_placesToFill.cls = RX2 ∧ yX2_placesToFill.cls ≠ "java/lang/invoke/MethodHandle" ∧ yX2_placesToFill.cls ≠ "java/lang/invoke/VarHandle" ∧ (parseMethodDescriptor yX2_placesToFill.desc).map (fun d => d.parameters.length) = some 0 := by decide +kernel
def f_X2_placesToFill (h : Hp) (a0 : Nat) : Option Int32 := (gI h a0 2 0).bind fun x1 => (gI h a0 2 1).bind fun x2 => some ((((1 : Int32) <<< (x1 &&& 31)) - (1 : Int32)) &&& (x2 ^^^ (-1 : Int32)))
set_option maxHeartbeats 4000000 in
set_option maxRecDepth 100000 in
theorem t_X2_placesToFill {g : GT} {l : Launch} {h : Hp} {a0 : Nat} {r : Int32} (hf : f_X2_placesToFill h a0 = some r) : PM g l 1 0 0 yX2_placesToFill wsX2_placesToFill [.ref a0] h (fun r9 h9 => r9 = some (.int r) ∧ h9 = h) := by
  refine pm_of (M := m_X2_placesToFill) (by decide) rfl rfl rfl (Nat.le_of_ble_eq_true rfl) (lo := [some (.ref a0)]) rfl ?_
  rw [f_X2_placesToFill] at hf
  refine pw_iconst (v := (1)) dX2_placesToFill_0 (by decide) ?_
  refine pw_aload_n dX2_placesToFill_1 rfl ?_
  refine q_gI hf rfl (by decide) w9_X2_placesToFill_X2 (by decide +kernel) dX2_placesToFill_2 (fun x1 hf => ?_)
  refine pw_ishl dX2_placesToFill_5 ?_
  refine pw_iconst (v := (1)) dX2_placesToFill_6 (by decide) ?_
  refine pw_isub dX2_placesToFill_7 ?_
  refine pw_aload_n dX2_placesToFill_8 rfl ?_
  refine q_gI hf rfl (by decide) w9_X2_placesToFill_X2 (by decide +kernel) dX2_placesToFill_9 (fun x2 hf => ?_)
  refine pw_iconst (v := (-1)) dX2_placesToFill_12 (by decide) ?_
  refine pw_ixor dX2_placesToFill_13 ?_
  refine pw_iand dX2_placesToFill_14 ?_
  exact pw_iret (x := (((1 : Int32) <<< (x1 &&& 31)) - (1 : Int32)) &&& (x2 ^^^ (-1 : Int32))) rfl rfl dX2_placesToFill_15 ⟨congrArg (fun z => some (Value.int z)) (Option.some.inj hf), rfl⟩
/-! X2_pinnedPairs -/
abbrev m_X2_pinnedPairs : MD := (cX2_pinnedPairs, RX2, "pinnedPairs", wsX2_pinnedPairs, 3, (some .int))
theorem w9_X2_pinnedPairs_X2 : ∀ w ∈ u_ws RX2 TX2 4, w ∈ wsX2_pinnedPairs := by decide +kernel
theorem hd9_X2_pinnedPairs : yX2_pinnedPairs.cls = RX2 ∧ yX2_pinnedPairs.cls ≠ "java/lang/invoke/MethodHandle" ∧ yX2_pinnedPairs.cls ≠ "java/lang/invoke/VarHandle" ∧ (parseMethodDescriptor yX2_pinnedPairs.desc).map (fun d => d.parameters.length) = some 0 := by decide +kernel
def f_X2_pinnedPairs_4 : Nat → Nat → Int32 → Int32 → Hp → Option Int32
  | 0, _, _, _, _ => none
  | n + 1, v0, v1, v2, h => if (15 : Int32) < v2 then (some (v1)) else ((gR h v0 2 3).bind fun x1 => (aI h 0 x1 v2).bind fun x2 => if x2 = 0 then (f_X2_pinnedPairs_4 n v0 v1 (v2 + (1)) h) else ((f_X6_bit h v2).bind fun x3 => f_X2_pinnedPairs_4 n v0 (v1 ||| x3) (v2 + (1)) h))
set_option maxHeartbeats 4000000 in
set_option maxRecDepth 100000 in
theorem w_X2_pinnedPairs_4 {g : GT} {l : Launch} {r : Int32} : ∀ (n : Nat) (v0 : Nat) (v1 : Int32) (v2 : Int32) (h : Hp), f_X2_pinnedPairs_4 n v0 v1 v2 h = some r → PW g l m_X2_pinnedPairs 2 0 0 4 [some (.ref v0), some (.int v1), some (.int v2)] [] h (fun r9 h9 => r9 = some (.int r) ∧ h9 = h) := by
  intro n
  induction n with
  | zero => intro v0 v1 v2 h hf; cases hf
  | succ n ih =>
    intro v0 v1 v2 h hf
    rw [f_X2_pinnedPairs_4] at hf
    refine pw_iload_n dX2_pinnedPairs_4 rfl ?_
    refine pw_bipush (v := (15)) dX2_pinnedPairs_5 (by decide) ?_
    refine q_icmp_gt (tgt := 32) hf dX2_pinnedPairs_7 (by decide) (fun hf _ => ?_) (fun hf _ => ?_)
    · refine pw_iload_n dX2_pinnedPairs_32 rfl ?_
      exact pw_iret (x := v1) rfl rfl dX2_pinnedPairs_33 ⟨congrArg (fun z => some (Value.int z)) (Option.some.inj hf), rfl⟩
    · refine pw_aload_n dX2_pinnedPairs_10 rfl ?_
      refine q_gR hf rfl (by decide) w9_X2_pinnedPairs_X2 (by decide +kernel) dX2_pinnedPairs_11 (fun x1 hf => ?_)
      refine pw_iload_n dX2_pinnedPairs_14 rfl ?_
      refine q_iald hf dX2_pinnedPairs_15 (fun x2 hf => ?_)
      refine q_if_eq (tgt := 26) hf dX2_pinnedPairs_16 (by decide) (fun hf _ => ?_) (fun hf _ => ?_)
      · refine pw_iinc (v := v2 + (1)) dX2_pinnedPairs_26 rfl rfl (by decide) rfl ?_
        dsimp only [lset, lset2, clr]
        refine pw_goto (tgt := 4) dX2_pinnedPairs_29 (by decide) ?_
        exact pw_lo (lle_s rfl (lle_s rfl (lle_s rfl lle_0))) (ih _ _ _ _ hf)
      · refine pw_iload_n dX2_pinnedPairs_19 rfl ?_
        refine pw_iload_n dX2_pinnedPairs_20 rfl ?_
        refine q_callSN_i (host := "TwinRows") (kc2 := 0) (ks2 := 0) (as := [.int v2]) (rest := [.int v1]) hf (fun x9 e9 => t_X6_bit e9) gX2_pinnedPairs_X6_bit_n41 (by decide +kernel) (by decide +kernel) (by decide +kernel) rfl hd9_X6_bit rfl ⟨(by decide), by decide⟩ ⟨rfl, rfl⟩ (Nat.le_of_ble_eq_true rfl) dX2_pinnedPairs_21 rfl (fun x3 hf => ?_)
        refine pw_ior dX2_pinnedPairs_24 ?_
        refine pw_istore_n dX2_pinnedPairs_25 (by decide) rfl ?_
        dsimp only [lset, lset2, clr]
        refine pw_iinc (v := v2 + (1)) dX2_pinnedPairs_26 rfl rfl (by decide) rfl ?_
        dsimp only [lset, lset2, clr]
        refine pw_goto (tgt := 4) dX2_pinnedPairs_29 (by decide) ?_
        exact pw_lo (lle_s rfl (lle_s rfl (lle_s rfl lle_0))) (ih _ _ _ _ hf)
def f_X2_pinnedPairs (h : Hp) (a0 : Nat) : Option Int32 := f_X2_pinnedPairs_4 4096 a0 (0 : Int32) (1 : Int32) h
set_option maxHeartbeats 4000000 in
set_option maxRecDepth 100000 in
theorem t_X2_pinnedPairs {g : GT} {l : Launch} {h : Hp} {a0 : Nat} {r : Int32} (hf : f_X2_pinnedPairs h a0 = some r) : PM g l 2 0 0 yX2_pinnedPairs wsX2_pinnedPairs [.ref a0] h (fun r9 h9 => r9 = some (.int r) ∧ h9 = h) := by
  refine pm_of (M := m_X2_pinnedPairs) (by decide) rfl rfl rfl (Nat.le_of_ble_eq_true rfl) (lo := [some (.ref a0), none, none]) rfl ?_
  rw [f_X2_pinnedPairs] at hf
  refine pw_iconst (v := (0)) dX2_pinnedPairs_0 (by decide) ?_
  refine pw_istore_n dX2_pinnedPairs_1 (by decide) rfl ?_
  dsimp only [lset, lset2, clr]
  refine pw_iconst (v := (1)) dX2_pinnedPairs_2 (by decide) ?_
  refine pw_istore_n dX2_pinnedPairs_3 (by decide) rfl ?_
  dsimp only [lset, lset2, clr]
  exact pw_lo (lle_s rfl (lle_s rfl (lle_s rfl lle_0))) (w_X2_pinnedPairs_4 4096 _ _ _ _ hf)
/-! X2_pinnedPlaces -/
abbrev m_X2_pinnedPlaces : MD := (cX2_pinnedPlaces, RX2, "pinnedPlaces", wsX2_pinnedPlaces, 4, (some .int))
theorem w9_X2_pinnedPlaces_X2 : ∀ w ∈ u_ws RX2 TX2 4, w ∈ wsX2_pinnedPlaces := by decide +kernel
theorem hd9_X2_pinnedPlaces : yX2_pinnedPlaces.cls = RX2 ∧ yX2_pinnedPlaces.cls ≠ "java/lang/invoke/MethodHandle" ∧ yX2_pinnedPlaces.cls ≠ "java/lang/invoke/VarHandle" ∧ (parseMethodDescriptor yX2_pinnedPlaces.desc).map (fun d => d.parameters.length) = some 1 := by decide +kernel
def f_X2_pinnedPlaces_4 : Nat → Nat → Int32 → Int32 → Int32 → Hp → Option Int32
  | 0, _, _, _, _, _ => none
  | n + 1, v0, v1, v2, v3, h => if (15 : Int32) < v3 then (some (v2)) else ((gR h v0 2 3).bind fun x1 => (aI h 0 x1 v3).bind fun x2 => if x2 = 0 then (f_X2_pinnedPlaces_4 n v0 v1 v2 (v3 + (1)) h) else (if v3 = v1 then (f_X2_pinnedPlaces_4 n v0 v1 v2 (v3 + (1)) h) else ((gR h v0 2 3).bind fun x3 => (aI h 0 x3 v3).bind fun x4 => (f_X6_bit h x4).bind fun x5 => (gR h v0 2 3).bind fun x6 => (aI h 0 x6 v3).bind fun x7 => (f_X6_bit h (x7 + v3)).bind fun x8 => f_X2_pinnedPlaces_4 n v0 v1 (v2 ||| (x5 ||| x8)) (v3 + (1)) h)))
set_option maxHeartbeats 4000000 in
set_option maxRecDepth 100000 in
theorem w_X2_pinnedPlaces_4 {g : GT} {l : Launch} {r : Int32} : ∀ (n : Nat) (v0 : Nat) (v1 : Int32) (v2 : Int32) (v3 : Int32) (h : Hp), f_X2_pinnedPlaces_4 n v0 v1 v2 v3 h = some r → PW g l m_X2_pinnedPlaces 2 0 0 4 [some (.ref v0), some (.int v1), some (.int v2), some (.int v3)] [] h (fun r9 h9 => r9 = some (.int r) ∧ h9 = h) := by
  intro n
  induction n with
  | zero => intro v0 v1 v2 v3 h hf; cases hf
  | succ n ih =>
    intro v0 v1 v2 v3 h hf
    rw [f_X2_pinnedPlaces_4] at hf
    refine pw_iload_n dX2_pinnedPlaces_4 rfl ?_
    refine pw_bipush (v := (15)) dX2_pinnedPlaces_5 (by decide) ?_
    refine q_icmp_gt (tgt := 54) hf dX2_pinnedPlaces_7 (by decide) (fun hf _ => ?_) (fun hf _ => ?_)
    · refine pw_iload_n dX2_pinnedPlaces_54 rfl ?_
      exact pw_iret (x := v2) rfl rfl dX2_pinnedPlaces_55 ⟨congrArg (fun z => some (Value.int z)) (Option.some.inj hf), rfl⟩
    · refine pw_aload_n dX2_pinnedPlaces_10 rfl ?_
      refine q_gR hf rfl (by decide) w9_X2_pinnedPlaces_X2 (by decide +kernel) dX2_pinnedPlaces_11 (fun x1 hf => ?_)
      refine pw_iload_n dX2_pinnedPlaces_14 rfl ?_
      refine q_iald hf dX2_pinnedPlaces_15 (fun x2 hf => ?_)
      refine q_if_eq (tgt := 48) hf dX2_pinnedPlaces_16 (by decide) (fun hf _ => ?_) (fun hf _ => ?_)
      · refine pw_iinc (v := v3 + (1)) dX2_pinnedPlaces_48 rfl rfl (by decide) rfl ?_
        dsimp only [lset, lset2, clr]
        refine pw_goto (tgt := 4) dX2_pinnedPlaces_51 (by decide) ?_
        exact pw_lo (lle_s rfl (lle_s rfl (lle_s rfl (lle_s rfl lle_0)))) (ih _ _ _ _ _ hf)
      · refine pw_iload_n dX2_pinnedPlaces_19 rfl ?_
        refine pw_iload_n dX2_pinnedPlaces_20 rfl ?_
        refine q_icmp_eq (tgt := 48) hf dX2_pinnedPlaces_21 (by decide) (fun hf _ => ?_) (fun hf _ => ?_)
        · refine pw_iinc (v := v3 + (1)) dX2_pinnedPlaces_48 rfl rfl (by decide) rfl ?_
          dsimp only [lset, lset2, clr]
          refine pw_goto (tgt := 4) dX2_pinnedPlaces_51 (by decide) ?_
          exact pw_lo (lle_s rfl (lle_s rfl (lle_s rfl (lle_s rfl lle_0)))) (ih _ _ _ _ _ hf)
        · refine pw_iload_n dX2_pinnedPlaces_24 rfl ?_
          refine pw_aload_n dX2_pinnedPlaces_25 rfl ?_
          refine q_gR hf rfl (by decide) w9_X2_pinnedPlaces_X2 (by decide +kernel) dX2_pinnedPlaces_26 (fun x3 hf => ?_)
          refine pw_iload_n dX2_pinnedPlaces_29 rfl ?_
          refine q_iald hf dX2_pinnedPlaces_30 (fun x4 hf => ?_)
          refine q_callSN_i (host := "TwinRows") (kc2 := 0) (ks2 := 0) (as := [.int x4]) (rest := [.int v2]) hf (fun x9 e9 => t_X6_bit e9) gX2_pinnedPlaces_X6_bit_n41 (by decide +kernel) (by decide +kernel) (by decide +kernel) rfl hd9_X6_bit rfl ⟨(by decide), by decide⟩ ⟨rfl, rfl⟩ (Nat.le_of_ble_eq_true rfl) dX2_pinnedPlaces_31 rfl (fun x5 hf => ?_)
          refine pw_aload_n dX2_pinnedPlaces_34 rfl ?_
          refine q_gR hf rfl (by decide) w9_X2_pinnedPlaces_X2 (by decide +kernel) dX2_pinnedPlaces_35 (fun x6 hf => ?_)
          refine pw_iload_n dX2_pinnedPlaces_38 rfl ?_
          refine q_iald hf dX2_pinnedPlaces_39 (fun x7 hf => ?_)
          refine pw_iload_n dX2_pinnedPlaces_40 rfl ?_
          refine pw_iadd dX2_pinnedPlaces_41 ?_
          refine q_callSN_i (host := "TwinRows") (kc2 := 0) (ks2 := 0) (as := [.int (x7 + v3)]) (rest := [.int x5, .int v2]) hf (fun x9 e9 => t_X6_bit e9) gX2_pinnedPlaces_X6_bit_n41 (by decide +kernel) (by decide +kernel) (by decide +kernel) rfl hd9_X6_bit rfl ⟨(by decide), by decide⟩ ⟨rfl, rfl⟩ (Nat.le_of_ble_eq_true rfl) dX2_pinnedPlaces_42 rfl (fun x8 hf => ?_)
          refine pw_ior dX2_pinnedPlaces_45 ?_
          refine pw_ior dX2_pinnedPlaces_46 ?_
          refine pw_istore_n dX2_pinnedPlaces_47 (by decide) rfl ?_
          dsimp only [lset, lset2, clr]
          refine pw_iinc (v := v3 + (1)) dX2_pinnedPlaces_48 rfl rfl (by decide) rfl ?_
          dsimp only [lset, lset2, clr]
          refine pw_goto (tgt := 4) dX2_pinnedPlaces_51 (by decide) ?_
          exact pw_lo (lle_s rfl (lle_s rfl (lle_s rfl (lle_s rfl lle_0)))) (ih _ _ _ _ _ hf)
def f_X2_pinnedPlaces (h : Hp) (a0 : Nat) (a1 : Int32) : Option Int32 := f_X2_pinnedPlaces_4 4096 a0 a1 (0 : Int32) (1 : Int32) h
set_option maxHeartbeats 4000000 in
set_option maxRecDepth 100000 in
theorem t_X2_pinnedPlaces {g : GT} {l : Launch} {h : Hp} {a0 : Nat} {a1 : Int32} {r : Int32} (hf : f_X2_pinnedPlaces h a0 a1 = some r) : PM g l 2 0 0 yX2_pinnedPlaces wsX2_pinnedPlaces [.ref a0, .int a1] h (fun r9 h9 => r9 = some (.int r) ∧ h9 = h) := by
  refine pm_of (M := m_X2_pinnedPlaces) (by decide) rfl rfl rfl (Nat.le_of_ble_eq_true rfl) (lo := [some (.ref a0), some (.int a1), none, none]) rfl ?_
  rw [f_X2_pinnedPlaces] at hf
  refine pw_iconst (v := (0)) dX2_pinnedPlaces_0 (by decide) ?_
  refine pw_istore_n dX2_pinnedPlaces_1 (by decide) rfl ?_
  dsimp only [lset, lset2, clr]
  refine pw_iconst (v := (1)) dX2_pinnedPlaces_2 (by decide) ?_
  refine pw_istore_n dX2_pinnedPlaces_3 (by decide) rfl ?_
  dsimp only [lset, lset2, clr]
  exact pw_lo (lle_s rfl (lle_s rfl (lle_s rfl (lle_s rfl lle_0)))) (w_X2_pinnedPlaces_4 4096 _ _ _ _ _ hf)
/-! J6_bitCount_0f7a4 -/
abbrev m_J6_bitCount_0f7a4 : MD := (cJ6_bitCount_0f7a4, RJ6, "bitCount", wsJ6_bitCount_0f7a4, 1, (some .int))
theorem hd9_J6_bitCount_0f7a4 : yJ6_bitCount_0f7a4.cls ≠ "java/lang/invoke/MethodHandle" ∧ yJ6_bitCount_0f7a4.cls ≠ "java/lang/invoke/VarHandle" ∧ (parseMethodDescriptor yJ6_bitCount_0f7a4.desc).map (fun d => d.parameters.length) = some 1 := by decide +kernel
def f_J6_bitCount_0f7a4 (h : Hp) (a0 : Int32) : Option Int32 := some ((((((((a0 - ((ushr a0 (1 : Int32)) &&& (1431655765 : Int32))) &&& (858993459 : Int32)) + ((ushr (a0 - ((ushr a0 (1 : Int32)) &&& (1431655765 : Int32))) (2 : Int32)) &&& (858993459 : Int32))) + (ushr (((a0 - ((ushr a0 (1 : Int32)) &&& (1431655765 : Int32))) &&& (858993459 : Int32)) + ((ushr (a0 - ((ushr a0 (1 : Int32)) &&& (1431655765 : Int32))) (2 : Int32)) &&& (858993459 : Int32))) (4 : Int32))) &&& (252645135 : Int32)) + (ushr (((((a0 - ((ushr a0 (1 : Int32)) &&& (1431655765 : Int32))) &&& (858993459 : Int32)) + ((ushr (a0 - ((ushr a0 (1 : Int32)) &&& (1431655765 : Int32))) (2 : Int32)) &&& (858993459 : Int32))) + (ushr (((a0 - ((ushr a0 (1 : Int32)) &&& (1431655765 : Int32))) &&& (858993459 : Int32)) + ((ushr (a0 - ((ushr a0 (1 : Int32)) &&& (1431655765 : Int32))) (2 : Int32)) &&& (858993459 : Int32))) (4 : Int32))) &&& (252645135 : Int32)) (8 : Int32))) + (ushr ((((((a0 - ((ushr a0 (1 : Int32)) &&& (1431655765 : Int32))) &&& (858993459 : Int32)) + ((ushr (a0 - ((ushr a0 (1 : Int32)) &&& (1431655765 : Int32))) (2 : Int32)) &&& (858993459 : Int32))) + (ushr (((a0 - ((ushr a0 (1 : Int32)) &&& (1431655765 : Int32))) &&& (858993459 : Int32)) + ((ushr (a0 - ((ushr a0 (1 : Int32)) &&& (1431655765 : Int32))) (2 : Int32)) &&& (858993459 : Int32))) (4 : Int32))) &&& (252645135 : Int32)) + (ushr (((((a0 - ((ushr a0 (1 : Int32)) &&& (1431655765 : Int32))) &&& (858993459 : Int32)) + ((ushr (a0 - ((ushr a0 (1 : Int32)) &&& (1431655765 : Int32))) (2 : Int32)) &&& (858993459 : Int32))) + (ushr (((a0 - ((ushr a0 (1 : Int32)) &&& (1431655765 : Int32))) &&& (858993459 : Int32)) + ((ushr (a0 - ((ushr a0 (1 : Int32)) &&& (1431655765 : Int32))) (2 : Int32)) &&& (858993459 : Int32))) (4 : Int32))) &&& (252645135 : Int32)) (8 : Int32))) (16 : Int32))) &&& (63 : Int32))
set_option maxHeartbeats 4000000 in
set_option maxRecDepth 100000 in
theorem t_J6_bitCount_0f7a4 {g : GT} {l : Launch} {h : Hp} {a0 : Int32} {r : Int32} (hf : f_J6_bitCount_0f7a4 h a0 = some r) : PM g l 1 0 0 yJ6_bitCount_0f7a4 wsJ6_bitCount_0f7a4 [.int a0] h (fun r9 h9 => r9 = some (.int r) ∧ h9 = h) := by
  refine pm_of (M := m_J6_bitCount_0f7a4) (by decide) rfl rfl rfl (Nat.le_of_ble_eq_true rfl) (lo := [some (.int a0)]) rfl ?_
  rw [f_J6_bitCount_0f7a4] at hf
  refine pw_iload_n dJ6_bitCount_0f7a4_0 rfl ?_
  refine pw_iload_n dJ6_bitCount_0f7a4_1 rfl ?_
  refine pw_iconst (v := (1)) dJ6_bitCount_0f7a4_2 (by decide) ?_
  refine pw_iushr dJ6_bitCount_0f7a4_3 ?_
  refine pw_ldcw (v := (1431655765)) dJ6_bitCount_0f7a4_4 (by decide +kernel) ?_
  refine pw_iand dJ6_bitCount_0f7a4_7 ?_
  refine pw_isub dJ6_bitCount_0f7a4_8 ?_
  refine pw_istore_n dJ6_bitCount_0f7a4_9 (by decide) rfl ?_
  dsimp only [lset, lset2, clr]
  refine pw_iload_n dJ6_bitCount_0f7a4_10 rfl ?_
  refine pw_ldcw (v := (858993459)) dJ6_bitCount_0f7a4_11 (by decide +kernel) ?_
  refine pw_iand dJ6_bitCount_0f7a4_14 ?_
  refine pw_iload_n dJ6_bitCount_0f7a4_15 rfl ?_
  refine pw_iconst (v := (2)) dJ6_bitCount_0f7a4_16 (by decide) ?_
  refine pw_iushr dJ6_bitCount_0f7a4_17 ?_
  refine pw_ldcw (v := (858993459)) dJ6_bitCount_0f7a4_18 (by decide +kernel) ?_
  refine pw_iand dJ6_bitCount_0f7a4_21 ?_
  refine pw_iadd dJ6_bitCount_0f7a4_22 ?_
  refine pw_istore_n dJ6_bitCount_0f7a4_23 (by decide) rfl ?_
  dsimp only [lset, lset2, clr]
  refine pw_iload_n dJ6_bitCount_0f7a4_24 rfl ?_
  refine pw_iload_n dJ6_bitCount_0f7a4_25 rfl ?_
  refine pw_iconst (v := (4)) dJ6_bitCount_0f7a4_26 (by decide) ?_
  refine pw_iushr dJ6_bitCount_0f7a4_27 ?_
  refine pw_iadd dJ6_bitCount_0f7a4_28 ?_
  refine pw_ldcw (v := (252645135)) dJ6_bitCount_0f7a4_29 (by decide +kernel) ?_
  refine pw_iand dJ6_bitCount_0f7a4_32 ?_
  refine pw_istore_n dJ6_bitCount_0f7a4_33 (by decide) rfl ?_
  dsimp only [lset, lset2, clr]
  refine pw_iload_n dJ6_bitCount_0f7a4_34 rfl ?_
  refine pw_iload_n dJ6_bitCount_0f7a4_35 rfl ?_
  refine pw_bipush (v := (8)) dJ6_bitCount_0f7a4_36 (by decide) ?_
  refine pw_iushr dJ6_bitCount_0f7a4_38 ?_
  refine pw_iadd dJ6_bitCount_0f7a4_39 ?_
  refine pw_istore_n dJ6_bitCount_0f7a4_40 (by decide) rfl ?_
  dsimp only [lset, lset2, clr]
  refine pw_iload_n dJ6_bitCount_0f7a4_41 rfl ?_
  refine pw_iload_n dJ6_bitCount_0f7a4_42 rfl ?_
  refine pw_bipush (v := (16)) dJ6_bitCount_0f7a4_43 (by decide) ?_
  refine pw_iushr dJ6_bitCount_0f7a4_45 ?_
  refine pw_iadd dJ6_bitCount_0f7a4_46 ?_
  refine pw_istore_n dJ6_bitCount_0f7a4_47 (by decide) rfl ?_
  dsimp only [lset, lset2, clr]
  refine pw_iload_n dJ6_bitCount_0f7a4_48 rfl ?_
  refine pw_bipush (v := (63)) dJ6_bitCount_0f7a4_49 (by decide) ?_
  refine pw_iand dJ6_bitCount_0f7a4_51 ?_
  exact pw_iret (x := (((((((a0 - ((ushr a0 (1 : Int32)) &&& (1431655765 : Int32))) &&& (858993459 : Int32)) + ((ushr (a0 - ((ushr a0 (1 : Int32)) &&& (1431655765 : Int32))) (2 : Int32)) &&& (858993459 : Int32))) + (ushr (((a0 - ((ushr a0 (1 : Int32)) &&& (1431655765 : Int32))) &&& (858993459 : Int32)) + ((ushr (a0 - ((ushr a0 (1 : Int32)) &&& (1431655765 : Int32))) (2 : Int32)) &&& (858993459 : Int32))) (4 : Int32))) &&& (252645135 : Int32)) + (ushr (((((a0 - ((ushr a0 (1 : Int32)) &&& (1431655765 : Int32))) &&& (858993459 : Int32)) + ((ushr (a0 - ((ushr a0 (1 : Int32)) &&& (1431655765 : Int32))) (2 : Int32)) &&& (858993459 : Int32))) + (ushr (((a0 - ((ushr a0 (1 : Int32)) &&& (1431655765 : Int32))) &&& (858993459 : Int32)) + ((ushr (a0 - ((ushr a0 (1 : Int32)) &&& (1431655765 : Int32))) (2 : Int32)) &&& (858993459 : Int32))) (4 : Int32))) &&& (252645135 : Int32)) (8 : Int32))) + (ushr ((((((a0 - ((ushr a0 (1 : Int32)) &&& (1431655765 : Int32))) &&& (858993459 : Int32)) + ((ushr (a0 - ((ushr a0 (1 : Int32)) &&& (1431655765 : Int32))) (2 : Int32)) &&& (858993459 : Int32))) + (ushr (((a0 - ((ushr a0 (1 : Int32)) &&& (1431655765 : Int32))) &&& (858993459 : Int32)) + ((ushr (a0 - ((ushr a0 (1 : Int32)) &&& (1431655765 : Int32))) (2 : Int32)) &&& (858993459 : Int32))) (4 : Int32))) &&& (252645135 : Int32)) + (ushr (((((a0 - ((ushr a0 (1 : Int32)) &&& (1431655765 : Int32))) &&& (858993459 : Int32)) + ((ushr (a0 - ((ushr a0 (1 : Int32)) &&& (1431655765 : Int32))) (2 : Int32)) &&& (858993459 : Int32))) + (ushr (((a0 - ((ushr a0 (1 : Int32)) &&& (1431655765 : Int32))) &&& (858993459 : Int32)) + ((ushr (a0 - ((ushr a0 (1 : Int32)) &&& (1431655765 : Int32))) (2 : Int32)) &&& (858993459 : Int32))) (4 : Int32))) &&& (252645135 : Int32)) (8 : Int32))) (16 : Int32))) &&& (63 : Int32)) rfl rfl dJ6_bitCount_0f7a4_52 ⟨congrArg (fun z => some (Value.int z)) (Option.some.inj hf), rfl⟩
/-! X2_sumOf -/
abbrev m_X2_sumOf : MD := (cX2_sumOf, RX2, "sumOf", wsX2_sumOf, 3, (some .int))
theorem hd9_X2_sumOf : yX2_sumOf.cls ≠ "java/lang/invoke/MethodHandle" ∧ yX2_sumOf.cls ≠ "java/lang/invoke/VarHandle" ∧ (parseMethodDescriptor yX2_sumOf.desc).map (fun d => d.parameters.length) = some 1 := by decide +kernel
def f_X2_sumOf_4 : Nat → Int32 → Int32 → Int32 → Hp → Option Int32
  | 0, _, _, _, _ => none
  | n + 1, v0, v1, v2, h => if (18 : Int32) < v2 then (some (v1)) else ((f_X6_bit h v2).bind fun x1 => if (v0 &&& x1) = 0 then (f_X2_sumOf_4 n v0 v1 (v2 + (1)) h) else (f_X2_sumOf_4 n v0 (v1 + v2) (v2 + (1)) h))
set_option maxHeartbeats 4000000 in
set_option maxRecDepth 100000 in
theorem w_X2_sumOf_4 {g : GT} {l : Launch} {r : Int32} : ∀ (n : Nat) (v0 : Int32) (v1 : Int32) (v2 : Int32) (h : Hp), f_X2_sumOf_4 n v0 v1 v2 h = some r → PW g l m_X2_sumOf 2 0 0 4 [some (.int v0), some (.int v1), some (.int v2)] [] h (fun r9 h9 => r9 = some (.int r) ∧ h9 = h) := by
  intro n
  induction n with
  | zero => intro v0 v1 v2 h hf; cases hf
  | succ n ih =>
    intro v0 v1 v2 h hf
    rw [f_X2_sumOf_4] at hf
    refine pw_iload_n dX2_sumOf_4 rfl ?_
    refine pw_bipush (v := (18)) dX2_sumOf_5 (by decide) ?_
    refine q_icmp_gt (tgt := 29) hf dX2_sumOf_7 (by decide) (fun hf _ => ?_) (fun hf _ => ?_)
    · refine pw_iload_n dX2_sumOf_29 rfl ?_
      exact pw_iret (x := v1) rfl rfl dX2_sumOf_30 ⟨congrArg (fun z => some (Value.int z)) (Option.some.inj hf), rfl⟩
    · refine pw_iload_n dX2_sumOf_10 rfl ?_
      refine pw_iload_n dX2_sumOf_11 rfl ?_
      refine q_callSN_i (host := "TwinRows") (kc2 := 0) (ks2 := 0) (as := [.int v2]) (rest := [.int v0]) hf (fun x9 e9 => t_X6_bit e9) gX2_sumOf_X6_bit_n41 (by decide +kernel) (by decide +kernel) (by decide +kernel) rfl hd9_X6_bit rfl ⟨(by decide), by decide⟩ ⟨rfl, rfl⟩ (Nat.le_of_ble_eq_true rfl) dX2_sumOf_12 rfl (fun x1 hf => ?_)
      refine pw_iand dX2_sumOf_15 ?_
      refine q_if_eq (tgt := 23) hf dX2_sumOf_16 (by decide) (fun hf _ => ?_) (fun hf _ => ?_)
      · refine pw_iinc (v := v2 + (1)) dX2_sumOf_23 rfl rfl (by decide) rfl ?_
        dsimp only [lset, lset2, clr]
        refine pw_goto (tgt := 4) dX2_sumOf_26 (by decide) ?_
        exact pw_lo (lle_s rfl (lle_s rfl (lle_s rfl lle_0))) (ih _ _ _ _ hf)
      · refine pw_iload_n dX2_sumOf_19 rfl ?_
        refine pw_iload_n dX2_sumOf_20 rfl ?_
        refine pw_iadd dX2_sumOf_21 ?_
        refine pw_istore_n dX2_sumOf_22 (by decide) rfl ?_
        dsimp only [lset, lset2, clr]
        refine pw_iinc (v := v2 + (1)) dX2_sumOf_23 rfl rfl (by decide) rfl ?_
        dsimp only [lset, lset2, clr]
        refine pw_goto (tgt := 4) dX2_sumOf_26 (by decide) ?_
        exact pw_lo (lle_s rfl (lle_s rfl (lle_s rfl lle_0))) (ih _ _ _ _ hf)
def f_X2_sumOf (h : Hp) (a0 : Int32) : Option Int32 := f_X2_sumOf_4 4096 a0 (0 : Int32) (1 : Int32) h
set_option maxHeartbeats 4000000 in
set_option maxRecDepth 100000 in
theorem t_X2_sumOf {g : GT} {l : Launch} {h : Hp} {a0 : Int32} {r : Int32} (hf : f_X2_sumOf h a0 = some r) : PM g l 2 0 0 yX2_sumOf wsX2_sumOf [.int a0] h (fun r9 h9 => r9 = some (.int r) ∧ h9 = h) := by
  refine pm_of (M := m_X2_sumOf) (by decide) rfl rfl rfl (Nat.le_of_ble_eq_true rfl) (lo := [some (.int a0), none, none]) rfl ?_
  rw [f_X2_sumOf] at hf
  refine pw_iconst (v := (0)) dX2_sumOf_0 (by decide) ?_
  refine pw_istore_n dX2_sumOf_1 (by decide) rfl ?_
  dsimp only [lset, lset2, clr]
  refine pw_iconst (v := (1)) dX2_sumOf_2 (by decide) ?_
  refine pw_istore_n dX2_sumOf_3 (by decide) rfl ?_
  dsimp only [lset, lset2, clr]
  exact pw_lo (lle_s rfl (lle_s rfl (lle_s rfl lle_0))) (w_X2_sumOf_4 4096 _ _ _ _ hf)
/-! X2_isEven -/
abbrev m_X2_isEven : MD := (cX2_isEven, RX2, "isEven", wsX2_isEven, 2, (some .boolean))
theorem w9_X2_isEven_X2 : ∀ w ∈ u_ws RX2 TX2 4, w ∈ wsX2_isEven := by decide +kernel
theorem hd9_X2_isEven : yX2_isEven.cls = RX2 ∧ yX2_isEven.cls ≠ "java/lang/invoke/MethodHandle" ∧ yX2_isEven.cls ≠ "java/lang/invoke/VarHandle" ∧ (parseMethodDescriptor yX2_isEven.desc).map (fun d => d.parameters.length) = some 0 := by decide +kernel
def f_X2_isEven (h : Hp) (a0 : Nat) : Option Int32 := if oK h a0 2 = true then (f_X2_placesToFill h a0).bind fun x1 => (f_J6_bitCount_0f7a4 h x1).bind fun x2 => (gI h a0 2 2).bind fun x3 => (f_J6_bitCount_0f7a4 h x3).bind fun x4 => if x2 = ((2 : Int32) * x4) then ((f_X2_sumOf h x1).bind fun x5 => (gI h a0 2 2).bind fun x6 => (f_X2_sumOf h x6).bind fun x7 => if ((x5 - x7) - (x5 - x7) / (2 : Int32) * (2 : Int32)) = 0 then (some ((1 : Int32))) else (some ((0 : Int32)))) else (some ((0 : Int32))) else none
set_option maxHeartbeats 4000000 in
set_option maxRecDepth 100000 in
theorem t_X2_isEven {g : GT} {l : Launch} {h : Hp} {a0 : Nat} {r : Int32} (hf : f_X2_isEven h a0 = some r) : PM g l 3 0 0 yX2_isEven wsX2_isEven [.ref a0] h (fun r9 h9 => r9 = some (.int r) ∧ h9 = h) := by
  refine pm_of (M := m_X2_isEven) (by decide) rfl rfl rfl (Nat.le_of_ble_eq_true rfl) (lo := [some (.ref a0), none]) rfl ?_
  rw [f_X2_isEven] at hf
  refine pw_aload_n dX2_isEven_0 rfl ?_
  refine q_callV_i (kc2 := 0) (ks2 := 0) (as := []) (rest := []) hf (fun x9 e9 => t_X2_placesToFill e9) gX2_isEven_X2_placesToFill rfl hd9_X2_placesToFill rfl rfl ⟨(by decide), by decide⟩ ⟨rfl, rfl⟩ (Nat.le_of_ble_eq_true rfl) dX2_isEven_1 rfl (fun x1 hf => ?_)
  refine pw_istore_n dX2_isEven_4 (by decide) rfl ?_
  dsimp only [lset, lset2, clr]
  refine pw_iload_n dX2_isEven_5 rfl ?_
  refine q_callS_i (kc2 := 0) (ks2 := 0) (as := [.int x1]) (rest := []) hf (fun x9 e9 => t_J6_bitCount_0f7a4 e9) gX2_isEven_J6_bitCount_0f7a4 rfl hd9_J6_bitCount_0f7a4 rfl ⟨(by decide), by decide⟩ ⟨rfl, rfl⟩ (Nat.le_of_ble_eq_true rfl) dX2_isEven_6 rfl (fun x2 hf => ?_)
  refine pw_iconst (v := (2)) dX2_isEven_9 (by decide) ?_
  refine pw_aload_n dX2_isEven_10 rfl ?_
  refine q_gI hf rfl (by decide) w9_X2_isEven_X2 (by decide +kernel) dX2_isEven_11 (fun x3 hf => ?_)
  refine q_callS_i (kc2 := 0) (ks2 := 0) (as := [.int x3]) (rest := [.int (2 : Int32), .int x2]) hf (fun x9 e9 => t_J6_bitCount_0f7a4 e9) gX2_isEven_J6_bitCount_0f7a4 rfl hd9_J6_bitCount_0f7a4 rfl ⟨(by decide), by decide⟩ ⟨rfl, rfl⟩ (Nat.le_of_ble_eq_true rfl) dX2_isEven_14 rfl (fun x4 hf => ?_)
  refine pw_imul dX2_isEven_17 ?_
  refine q_icmp_ne (tgt := 42) hf dX2_isEven_18 (by decide) (fun hf _ => ?_) (fun hf _ => ?_)
  · refine pw_iconst (v := (0)) dX2_isEven_42 (by decide) ?_
    exact pw_iret (x := (0 : Int32)) rfl rfl dX2_isEven_43 ⟨congrArg (fun z => some (Value.int z)) (Option.some.inj hf), rfl⟩
  · refine pw_iload_n dX2_isEven_21 rfl ?_
    refine q_callS_i (kc2 := 0) (ks2 := 0) (as := [.int x1]) (rest := []) hf (fun x9 e9 => t_X2_sumOf e9) gX2_isEven_X2_sumOf rfl hd9_X2_sumOf rfl ⟨(by decide), by decide⟩ ⟨rfl, rfl⟩ (Nat.le_of_ble_eq_true rfl) dX2_isEven_22 rfl (fun x5 hf => ?_)
    refine pw_aload_n dX2_isEven_25 rfl ?_
    refine q_gI hf rfl (by decide) w9_X2_isEven_X2 (by decide +kernel) dX2_isEven_26 (fun x6 hf => ?_)
    refine q_callS_i (kc2 := 0) (ks2 := 0) (as := [.int x6]) (rest := [.int x5]) hf (fun x9 e9 => t_X2_sumOf e9) gX2_isEven_X2_sumOf rfl hd9_X2_sumOf rfl ⟨(by decide), by decide⟩ ⟨rfl, rfl⟩ (Nat.le_of_ble_eq_true rfl) dX2_isEven_29 rfl (fun x7 hf => ?_)
    refine pw_isub dX2_isEven_32 ?_
    refine pw_iconst (v := (2)) dX2_isEven_33 (by decide) ?_
    refine pw_irem dX2_isEven_34 (by decide) ?_
    refine q_if_ne (tgt := 42) hf dX2_isEven_35 (by decide) (fun hf _ => ?_) (fun hf _ => ?_)
    · refine pw_iconst (v := (0)) dX2_isEven_42 (by decide) ?_
      exact pw_iret (x := (0 : Int32)) rfl rfl dX2_isEven_43 ⟨congrArg (fun z => some (Value.int z)) (Option.some.inj hf), rfl⟩
    · refine pw_iconst (v := (1)) dX2_isEven_38 (by decide) ?_
      refine pw_goto (tgt := 43) dX2_isEven_39 (by decide) ?_
      exact pw_iret (x := (1 : Int32)) rfl rfl dX2_isEven_43 ⟨congrArg (fun z => some (Value.int z)) (Option.some.inj hf), rfl⟩
/-! X2_distanceOf -/
abbrev m_X2_distanceOf : MD := (cX2_distanceOf, RX2, "distanceOf", wsX2_distanceOf, 4, (some .int))
theorem hd9_X2_distanceOf : yX2_distanceOf.cls = RX2 ∧ yX2_distanceOf.cls ≠ "java/lang/invoke/MethodHandle" ∧ yX2_distanceOf.cls ≠ "java/lang/invoke/VarHandle" ∧ (parseMethodDescriptor yX2_distanceOf.desc).map (fun d => d.parameters.length) = some 1 := by decide +kernel
def f_X2_distanceOf_4 : Nat → Nat → Int32 → Int32 → Int32 → Hp → Option Int32
  | 0, _, _, _, _, _ => none
  | n + 1, v0, v1, v2, v3, h => if (15 : Int32) < v3 then (some ((-1 : Int32))) else (if oK h v0 2 = true then (f_X2_hasPair h v0 v3).bind fun x1 => if x1 = 0 then (f_X2_distanceOf_4 n v0 v1 v2 (v3 + (1)) h) else (if v2 = v1 then (some (v3)) else (f_X2_distanceOf_4 n v0 v1 (v2 + (1)) (v3 + (1)) h)) else none)
set_option maxHeartbeats 4000000 in
set_option maxRecDepth 100000 in
theorem w_X2_distanceOf_4 {g : GT} {l : Launch} {r : Int32} : ∀ (n : Nat) (v0 : Nat) (v1 : Int32) (v2 : Int32) (v3 : Int32) (h : Hp), f_X2_distanceOf_4 n v0 v1 v2 v3 h = some r → PW g l m_X2_distanceOf 3 0 0 4 [some (.ref v0), some (.int v1), some (.int v2), some (.int v3)] [] h (fun r9 h9 => r9 = some (.int r) ∧ h9 = h) := by
  intro n
  induction n with
  | zero => intro v0 v1 v2 v3 h hf; cases hf
  | succ n ih =>
    intro v0 v1 v2 v3 h hf
    rw [f_X2_distanceOf_4] at hf
    refine pw_iload_n dX2_distanceOf_4 rfl ?_
    refine pw_bipush (v := (15)) dX2_distanceOf_5 (by decide) ?_
    refine q_icmp_gt (tgt := 34) hf dX2_distanceOf_7 (by decide) (fun hf _ => ?_) (fun hf _ => ?_)
    · refine pw_iconst (v := (-1)) dX2_distanceOf_34 (by decide) ?_
      exact pw_iret (x := (-1 : Int32)) rfl rfl dX2_distanceOf_35 ⟨congrArg (fun z => some (Value.int z)) (Option.some.inj hf), rfl⟩
    · refine pw_aload_n dX2_distanceOf_10 rfl ?_
      refine pw_iload_n dX2_distanceOf_11 rfl ?_
      refine q_callV_i (kc2 := 0) (ks2 := 0) (as := [.int v3]) (rest := []) hf (fun x9 e9 => t_X2_hasPair e9) gX2_distanceOf_X2_hasPair rfl hd9_X2_hasPair rfl rfl ⟨(by decide), by decide⟩ ⟨rfl, rfl⟩ (Nat.le_of_ble_eq_true rfl) dX2_distanceOf_12 rfl (fun x1 hf => ?_)
      refine q_if_eq (tgt := 28) hf dX2_distanceOf_15 (by decide) (fun hf _ => ?_) (fun hf _ => ?_)
      · refine pw_iinc (v := v3 + (1)) dX2_distanceOf_28 rfl rfl (by decide) rfl ?_
        dsimp only [lset, lset2, clr]
        refine pw_goto (tgt := 4) dX2_distanceOf_31 (by decide) ?_
        exact pw_lo (lle_s rfl (lle_s rfl (lle_s rfl (lle_s rfl lle_0)))) (ih _ _ _ _ _ hf)
      · refine pw_iload_n dX2_distanceOf_18 rfl ?_
        refine pw_iload_n dX2_distanceOf_19 rfl ?_
        refine q_icmp_ne (tgt := 25) hf dX2_distanceOf_20 (by decide) (fun hf _ => ?_) (fun hf _ => ?_)
        · refine pw_iinc (v := v2 + (1)) dX2_distanceOf_25 rfl rfl (by decide) rfl ?_
          dsimp only [lset, lset2, clr]
          refine pw_iinc (v := v3 + (1)) dX2_distanceOf_28 rfl rfl (by decide) rfl ?_
          dsimp only [lset, lset2, clr]
          refine pw_goto (tgt := 4) dX2_distanceOf_31 (by decide) ?_
          exact pw_lo (lle_s rfl (lle_s rfl (lle_s rfl (lle_s rfl lle_0)))) (ih _ _ _ _ _ hf)
        · refine pw_iload_n dX2_distanceOf_23 rfl ?_
          exact pw_iret (x := v3) rfl rfl dX2_distanceOf_24 ⟨congrArg (fun z => some (Value.int z)) (Option.some.inj hf), rfl⟩
def f_X2_distanceOf (h : Hp) (a0 : Nat) (a1 : Int32) : Option Int32 := f_X2_distanceOf_4 4096 a0 a1 (0 : Int32) (1 : Int32) h
set_option maxHeartbeats 4000000 in
set_option maxRecDepth 100000 in
theorem t_X2_distanceOf {g : GT} {l : Launch} {h : Hp} {a0 : Nat} {a1 : Int32} {r : Int32} (hf : f_X2_distanceOf h a0 a1 = some r) : PM g l 3 0 0 yX2_distanceOf wsX2_distanceOf [.ref a0, .int a1] h (fun r9 h9 => r9 = some (.int r) ∧ h9 = h) := by
  refine pm_of (M := m_X2_distanceOf) (by decide) rfl rfl rfl (Nat.le_of_ble_eq_true rfl) (lo := [some (.ref a0), some (.int a1), none, none]) rfl ?_
  rw [f_X2_distanceOf] at hf
  refine pw_iconst (v := (0)) dX2_distanceOf_0 (by decide) ?_
  refine pw_istore_n dX2_distanceOf_1 (by decide) rfl ?_
  dsimp only [lset, lset2, clr]
  refine pw_iconst (v := (1)) dX2_distanceOf_2 (by decide) ?_
  refine pw_istore_n dX2_distanceOf_3 (by decide) rfl ?_
  dsimp only [lset, lset2, clr]
  exact pw_lo (lle_s rfl (lle_s rfl (lle_s rfl (lle_s rfl lle_0)))) (w_X2_distanceOf_4 4096 _ _ _ _ _ hf)
/-! X2_setHole -/
abbrev m_X2_setHole : MD := (cX2_setHole, RX2, "setHole", wsX2_setHole, 3, (some .int))
theorem w9_X2_setHole_X2 : ∀ w ∈ u_ws RX2 TX2 4, w ∈ wsX2_setHole := by decide +kernel
theorem hd9_X2_setHole : yX2_setHole.cls = RX2 ∧ yX2_setHole.cls ≠ "java/lang/invoke/MethodHandle" ∧ yX2_setHole.cls ≠ "java/lang/invoke/VarHandle" ∧ (parseMethodDescriptor yX2_setHole.desc).map (fun d => d.parameters.length) = some 2 := by decide +kernel
def f_X2_setHole (h : Hp) (a0 : Nat) (a1 : Int32) (a2 : Int32) : Option (Int32 × Hp) := if oK h a0 2 = true then (f_X2_hasPlace h a0 a1).bind fun x1 => if x1 = 0 then (some (((-1 : Int32), h))) else (if oK h a0 2 = true then (f_X2_hasHole h a0 a1).bind fun x2 => if x2 = a2 then (some (((-1 : Int32), h))) else (if oK h a0 2 = true then (f_X2_pinnedPlaces h a0 (0 : Int32)).bind fun x3 => (f_X6_bit h a1).bind fun x4 => if (x3 &&& x4) = 0 then ((gI h a0 2 1).bind fun x5 => (f_X6_bit h a1).bind fun x6 => (pV h a0 2 1 (.int (x5 ^^^ x6))).bind fun h7 => (gI h7 a0 2 1).bind fun x8 => (f_J6_bitCount_0f7a4 h7 x8).bind fun x9 => some ((x9, h7))) else (some (((-1 : Int32), h))) else none) else none) else none
set_option maxHeartbeats 4000000 in
set_option maxRecDepth 100000 in
theorem t_X2_setHole {g : GT} {l : Launch} {h : Hp} {a0 : Nat} {a1 : Int32} {a2 : Int32} {r : (Int32 × Hp)} (hf : f_X2_setHole h a0 a1 a2 = some r) : PM g l 3 0 0 yX2_setHole wsX2_setHole [.ref a0, .int a1, .int a2] h (fun r9 h9 => r9 = some (.int r.1) ∧ h9 = r.2) := by
  refine pm_of (M := m_X2_setHole) (by decide) rfl rfl rfl (Nat.le_of_ble_eq_true rfl) (lo := [some (.ref a0), some (.int a1), some (.int a2)]) rfl ?_
  rw [f_X2_setHole] at hf
  refine pw_aload_n dX2_setHole_0 rfl ?_
  refine pw_iload_n dX2_setHole_1 rfl ?_
  refine q_callV_i (kc2 := 0) (ks2 := 0) (as := [.int a1]) (rest := []) hf (fun x9 e9 => t_X2_hasPlace e9) gX2_setHole_X2_hasPlace rfl hd9_X2_hasPlace rfl rfl ⟨(by decide), by decide⟩ ⟨rfl, rfl⟩ (Nat.le_of_ble_eq_true rfl) dX2_setHole_2 rfl (fun x1 hf => ?_)
  refine q_if_eq (tgt := 30) hf dX2_setHole_5 (by decide) (fun hf _ => ?_) (fun hf _ => ?_)
  · refine pw_iconst (v := (-1)) dX2_setHole_30 (by decide) ?_
    exact pw_iret (x := (-1 : Int32)) rfl rfl dX2_setHole_31 (ret_iw hf)
  · refine pw_aload_n dX2_setHole_8 rfl ?_
    refine pw_iload_n dX2_setHole_9 rfl ?_
    refine q_callV_i (kc2 := 0) (ks2 := 0) (as := [.int a1]) (rest := []) hf (fun x9 e9 => t_X2_hasHole e9) gX2_setHole_X2_hasHole rfl hd9_X2_hasHole rfl rfl ⟨(by decide), by decide⟩ ⟨rfl, rfl⟩ (Nat.le_of_ble_eq_true rfl) dX2_setHole_10 rfl (fun x2 hf => ?_)
    refine pw_iload_n dX2_setHole_13 rfl ?_
    refine q_icmp_eq (tgt := 30) hf dX2_setHole_14 (by decide) (fun hf _ => ?_) (fun hf _ => ?_)
    · refine pw_iconst (v := (-1)) dX2_setHole_30 (by decide) ?_
      exact pw_iret (x := (-1 : Int32)) rfl rfl dX2_setHole_31 (ret_iw hf)
    · refine pw_aload_n dX2_setHole_17 rfl ?_
      refine pw_iconst (v := (0)) dX2_setHole_18 (by decide) ?_
      refine q_callV_i (kc2 := 0) (ks2 := 0) (as := [.int (0 : Int32)]) (rest := []) hf (fun x9 e9 => t_X2_pinnedPlaces e9) gX2_setHole_X2_pinnedPlaces rfl hd9_X2_pinnedPlaces rfl rfl ⟨(by decide), by decide⟩ ⟨rfl, rfl⟩ (Nat.le_of_ble_eq_true rfl) dX2_setHole_19 rfl (fun x3 hf => ?_)
      refine pw_iload_n dX2_setHole_22 rfl ?_
      refine q_callSN_i (host := "TwinRows") (kc2 := 0) (ks2 := 0) (as := [.int a1]) (rest := [.int x3]) hf (fun x9 e9 => t_X6_bit e9) gX2_setHole_X6_bit_n41 (by decide +kernel) (by decide +kernel) (by decide +kernel) rfl hd9_X6_bit rfl ⟨(by decide), by decide⟩ ⟨rfl, rfl⟩ (Nat.le_of_ble_eq_true rfl) dX2_setHole_23 rfl (fun x4 hf => ?_)
      refine pw_iand dX2_setHole_26 ?_
      refine q_if_eq (tgt := 32) hf dX2_setHole_27 (by decide) (fun hf _ => ?_) (fun hf _ => ?_)
      · refine pw_aload_n dX2_setHole_32 rfl ?_
        refine pw_dup dX2_setHole_33 rfl ?_
        refine q_gI hf rfl (by decide) w9_X2_setHole_X2 (by decide +kernel) dX2_setHole_34 (fun x5 hf => ?_)
        refine pw_iload_n dX2_setHole_37 rfl ?_
        refine q_callSN_i (host := "TwinRows") (kc2 := 0) (ks2 := 0) (as := [.int a1]) (rest := [.int x5, .ref a0]) hf (fun x9 e9 => t_X6_bit e9) gX2_setHole_X6_bit_n41 (by decide +kernel) (by decide +kernel) (by decide +kernel) rfl hd9_X6_bit rfl ⟨(by decide), by decide⟩ ⟨rfl, rfl⟩ (Nat.le_of_ble_eq_true rfl) dX2_setHole_38 rfl (fun x6 hf => ?_)
        refine pw_ixor dX2_setHole_41 ?_
        refine q_pV (ty := .int) hf tyX2 tyX2_ok nmX2 rfl (by decide) w9_X2_setHole_X2 (by decide +kernel) rfl (by decide +kernel) rfl rfl dX2_setHole_42 (fun h7 hf => ?_)
        refine pw_aload_n dX2_setHole_45 rfl ?_
        refine q_gI hf rfl (by decide) w9_X2_setHole_X2 (by decide +kernel) dX2_setHole_46 (fun x8 hf => ?_)
        refine q_callS_i (kc2 := 0) (ks2 := 0) (as := [.int x8]) (rest := []) hf (fun x9 e9 => t_J6_bitCount_0f7a4 e9) gX2_setHole_J6_bitCount_0f7a4 rfl hd9_J6_bitCount_0f7a4 rfl ⟨(by decide), by decide⟩ ⟨rfl, rfl⟩ (Nat.le_of_ble_eq_true rfl) dX2_setHole_49 rfl (fun x9 hf => ?_)
        exact pw_iret (x := x9) rfl rfl dX2_setHole_52 (ret_iw hf)
      · refine pw_iconst (v := (-1)) dX2_setHole_30 (by decide) ?_
        exact pw_iret (x := (-1 : Int32)) rfl rfl dX2_setHole_31 (ret_iw hf)
/-! X2_setPair -/
abbrev m_X2_setPair : MD := (cX2_setPair, RX2, "setPair", wsX2_setPair, 3, (some .int))
theorem w9_X2_setPair_X2 : ∀ w ∈ u_ws RX2 TX2 4, w ∈ wsX2_setPair := by decide +kernel
theorem hd9_X2_setPair : yX2_setPair.cls = RX2 ∧ yX2_setPair.cls ≠ "java/lang/invoke/MethodHandle" ∧ yX2_setPair.cls ≠ "java/lang/invoke/VarHandle" ∧ (parseMethodDescriptor yX2_setPair.desc).map (fun d => d.parameters.length) = some 2 := by decide +kernel
def f_X2_setPair (h : Hp) (a0 : Nat) (a1 : Int32) (a2 : Int32) : Option (Int32 × Hp) := if a1 < (1 : Int32) then (some (((-1 : Int32), h))) else (if (15 : Int32) < a1 then (some (((-1 : Int32), h))) else (if oK h a0 2 = true then (f_X2_hasPair h a0 a1).bind fun x1 => if x1 = a2 then (some (((-1 : Int32), h))) else (if a2 = 0 then ((gI h a0 2 2).bind fun x2 => (f_X6_bit h a1).bind fun x3 => (pV h a0 2 2 (.int (x2 ^^^ x3))).bind fun h4 => (gR h4 a0 2 3).bind fun x5 => (sI h4 0 x5 a1 (0 : Int32)).bind fun h6 => (gI h6 a0 2 2).bind fun x7 => (f_J6_bitCount_0f7a4 h6 x7).bind fun x8 => some ((x8, h6))) else ((gI h a0 2 2).bind fun x9 => (f_J6_bitCount_0f7a4 h x9).bind fun x10 => if x10 < (9 : Int32) then ((gI h a0 2 2).bind fun x11 => (f_X6_bit h a1).bind fun x12 => (pV h a0 2 2 (.int (x11 ^^^ x12))).bind fun h13 => (gR h13 a0 2 3).bind fun x14 => (sI h13 0 x14 a1 (0 : Int32)).bind fun h15 => (gI h15 a0 2 2).bind fun x16 => (f_J6_bitCount_0f7a4 h15 x16).bind fun x17 => some ((x17, h15))) else (some (((-1 : Int32), h))))) else none))
set_option maxHeartbeats 4000000 in
set_option maxRecDepth 100000 in
theorem t_X2_setPair {g : GT} {l : Launch} {h : Hp} {a0 : Nat} {a1 : Int32} {a2 : Int32} {r : (Int32 × Hp)} (hf : f_X2_setPair h a0 a1 a2 = some r) : PM g l 3 0 0 yX2_setPair wsX2_setPair [.ref a0, .int a1, .int a2] h (fun r9 h9 => r9 = some (.int r.1) ∧ h9 = r.2) := by
  refine pm_of (M := m_X2_setPair) (by decide) rfl rfl rfl (Nat.le_of_ble_eq_true rfl) (lo := [some (.ref a0), some (.int a1), some (.int a2)]) rfl ?_
  rw [f_X2_setPair] at hf
  refine pw_iload_n dX2_setPair_0 rfl ?_
  refine pw_iconst (v := (1)) dX2_setPair_1 (by decide) ?_
  refine q_icmp_lt (tgt := 20) hf dX2_setPair_2 (by decide) (fun hf _ => ?_) (fun hf _ => ?_)
  · refine pw_iconst (v := (-1)) dX2_setPair_20 (by decide) ?_
    exact pw_iret (x := (-1 : Int32)) rfl rfl dX2_setPair_21 (ret_iw hf)
  · refine pw_iload_n dX2_setPair_5 rfl ?_
    refine pw_bipush (v := (15)) dX2_setPair_6 (by decide) ?_
    refine q_icmp_gt (tgt := 20) hf dX2_setPair_8 (by decide) (fun hf _ => ?_) (fun hf _ => ?_)
    · refine pw_iconst (v := (-1)) dX2_setPair_20 (by decide) ?_
      exact pw_iret (x := (-1 : Int32)) rfl rfl dX2_setPair_21 (ret_iw hf)
    · refine pw_aload_n dX2_setPair_11 rfl ?_
      refine pw_iload_n dX2_setPair_12 rfl ?_
      refine q_callV_i (kc2 := 0) (ks2 := 0) (as := [.int a1]) (rest := []) hf (fun x9 e9 => t_X2_hasPair e9) gX2_setPair_X2_hasPair rfl hd9_X2_hasPair rfl rfl ⟨(by decide), by decide⟩ ⟨rfl, rfl⟩ (Nat.le_of_ble_eq_true rfl) dX2_setPair_13 rfl (fun x1 hf => ?_)
      refine pw_iload_n dX2_setPair_16 rfl ?_
      refine q_icmp_ne (tgt := 22) hf dX2_setPair_17 (by decide) (fun hf _ => ?_) (fun hf _ => ?_)
      · refine pw_iload_n dX2_setPair_22 rfl ?_
        refine q_if_eq (tgt := 40) hf dX2_setPair_23 (by decide) (fun hf _ => ?_) (fun hf _ => ?_)
        · refine pw_aload_n dX2_setPair_40 rfl ?_
          refine pw_dup dX2_setPair_41 rfl ?_
          refine q_gI hf rfl (by decide) w9_X2_setPair_X2 (by decide +kernel) dX2_setPair_42 (fun x2 hf => ?_)
          refine pw_iload_n dX2_setPair_45 rfl ?_
          refine q_callSN_i (host := "TwinRows") (kc2 := 0) (ks2 := 0) (as := [.int a1]) (rest := [.int x2, .ref a0]) hf (fun x9 e9 => t_X6_bit e9) gX2_setPair_X6_bit_n41 (by decide +kernel) (by decide +kernel) (by decide +kernel) rfl hd9_X6_bit rfl ⟨(by decide), by decide⟩ ⟨rfl, rfl⟩ (Nat.le_of_ble_eq_true rfl) dX2_setPair_46 rfl (fun x3 hf => ?_)
          refine pw_ixor dX2_setPair_49 ?_
          refine q_pV (ty := .int) hf tyX2 tyX2_ok nmX2 rfl (by decide) w9_X2_setPair_X2 (by decide +kernel) rfl (by decide +kernel) rfl rfl dX2_setPair_50 (fun h4 hf => ?_)
          refine pw_aload_n dX2_setPair_53 rfl ?_
          refine q_gR hf rfl (by decide) w9_X2_setPair_X2 (by decide +kernel) dX2_setPair_54 (fun x5 hf => ?_)
          refine pw_iload_n dX2_setPair_57 rfl ?_
          refine pw_iconst (v := (0)) dX2_setPair_58 (by decide) ?_
          refine q_iast hf dX2_setPair_59 (fun h6 hf => ?_)
          refine pw_aload_n dX2_setPair_60 rfl ?_
          refine q_gI hf rfl (by decide) w9_X2_setPair_X2 (by decide +kernel) dX2_setPair_61 (fun x7 hf => ?_)
          refine q_callS_i (kc2 := 0) (ks2 := 0) (as := [.int x7]) (rest := []) hf (fun x9 e9 => t_J6_bitCount_0f7a4 e9) gX2_setPair_J6_bitCount_0f7a4 rfl hd9_J6_bitCount_0f7a4 rfl ⟨(by decide), by decide⟩ ⟨rfl, rfl⟩ (Nat.le_of_ble_eq_true rfl) dX2_setPair_64 rfl (fun x8 hf => ?_)
          exact pw_iret (x := x8) rfl rfl dX2_setPair_67 (ret_iw hf)
        · refine pw_aload_n dX2_setPair_26 rfl ?_
          refine q_gI hf rfl (by decide) w9_X2_setPair_X2 (by decide +kernel) dX2_setPair_27 (fun x9 hf => ?_)
          refine q_callS_i (kc2 := 0) (ks2 := 0) (as := [.int x9]) (rest := []) hf (fun x9 e9 => t_J6_bitCount_0f7a4 e9) gX2_setPair_J6_bitCount_0f7a4 rfl hd9_J6_bitCount_0f7a4 rfl ⟨(by decide), by decide⟩ ⟨rfl, rfl⟩ (Nat.le_of_ble_eq_true rfl) dX2_setPair_30 rfl (fun x10 hf => ?_)
          refine pw_bipush (v := (9)) dX2_setPair_33 (by decide) ?_
          refine q_icmp_lt (tgt := 40) hf dX2_setPair_35 (by decide) (fun hf _ => ?_) (fun hf _ => ?_)
          · refine pw_aload_n dX2_setPair_40 rfl ?_
            refine pw_dup dX2_setPair_41 rfl ?_
            refine q_gI hf rfl (by decide) w9_X2_setPair_X2 (by decide +kernel) dX2_setPair_42 (fun x11 hf => ?_)
            refine pw_iload_n dX2_setPair_45 rfl ?_
            refine q_callSN_i (host := "TwinRows") (kc2 := 0) (ks2 := 0) (as := [.int a1]) (rest := [.int x11, .ref a0]) hf (fun x9 e9 => t_X6_bit e9) gX2_setPair_X6_bit_n41 (by decide +kernel) (by decide +kernel) (by decide +kernel) rfl hd9_X6_bit rfl ⟨(by decide), by decide⟩ ⟨rfl, rfl⟩ (Nat.le_of_ble_eq_true rfl) dX2_setPair_46 rfl (fun x12 hf => ?_)
            refine pw_ixor dX2_setPair_49 ?_
            refine q_pV (ty := .int) hf tyX2 tyX2_ok nmX2 rfl (by decide) w9_X2_setPair_X2 (by decide +kernel) rfl (by decide +kernel) rfl rfl dX2_setPair_50 (fun h13 hf => ?_)
            refine pw_aload_n dX2_setPair_53 rfl ?_
            refine q_gR hf rfl (by decide) w9_X2_setPair_X2 (by decide +kernel) dX2_setPair_54 (fun x14 hf => ?_)
            refine pw_iload_n dX2_setPair_57 rfl ?_
            refine pw_iconst (v := (0)) dX2_setPair_58 (by decide) ?_
            refine q_iast hf dX2_setPair_59 (fun h15 hf => ?_)
            refine pw_aload_n dX2_setPair_60 rfl ?_
            refine q_gI hf rfl (by decide) w9_X2_setPair_X2 (by decide +kernel) dX2_setPair_61 (fun x16 hf => ?_)
            refine q_callS_i (kc2 := 0) (ks2 := 0) (as := [.int x16]) (rest := []) hf (fun x9 e9 => t_J6_bitCount_0f7a4 e9) gX2_setPair_J6_bitCount_0f7a4 rfl hd9_J6_bitCount_0f7a4 rfl ⟨(by decide), by decide⟩ ⟨rfl, rfl⟩ (Nat.le_of_ble_eq_true rfl) dX2_setPair_64 rfl (fun x17 hf => ?_)
            exact pw_iret (x := x17) rfl rfl dX2_setPair_67 (ret_iw hf)
          · refine pw_iconst (v := (-1)) dX2_setPair_38 (by decide) ?_
            exact pw_iret (x := (-1 : Int32)) rfl rfl dX2_setPair_39 (ret_iw hf)
      · refine pw_iconst (v := (-1)) dX2_setPair_20 (by decide) ?_
        exact pw_iret (x := (-1 : Int32)) rfl rfl dX2_setPair_21 (ret_iw hf)
/-! X2_setPin -/
abbrev m_X2_setPin : MD := (cX2_setPin, RX2, "setPin", wsX2_setPin, 3, (some .int))
theorem w9_X2_setPin_X2 : ∀ w ∈ u_ws RX2 TX2 4, w ∈ wsX2_setPin := by decide +kernel
theorem hd9_X2_setPin : yX2_setPin.cls = RX2 ∧ yX2_setPin.cls ≠ "java/lang/invoke/MethodHandle" ∧ yX2_setPin.cls ≠ "java/lang/invoke/VarHandle" ∧ (parseMethodDescriptor yX2_setPin.desc).map (fun d => d.parameters.length) = some 2 := by decide +kernel
def f_X2_setPin (h : Hp) (a0 : Nat) (a1 : Int32) (a2 : Int32) : Option (Int32 × Hp) := if oK h a0 2 = true then (f_X2_hasPair h a0 a1).bind fun x1 => if x1 = 0 then (some (((-1 : Int32), h))) else (if a2 = 0 then ((gR h a0 2 3).bind fun x2 => (aI h 0 x2 a1).bind fun x3 => if x3 = a2 then (some (((1 : Int32), h))) else (if a2 = 0 then ((gR h a0 2 3).bind fun x4 => (sI h 0 x4 a1 a2).bind fun h5 => some (((0 : Int32), h5))) else ((gI h a0 2 1).bind fun x6 => if oK h a0 2 = true then (f_X2_pinnedPlaces h a0 a1).bind fun x7 => (f_X6_bit h a2).bind fun x8 => (f_X6_bit h (a2 + a1)).bind fun x9 => if ((x6 ||| x7) &&& (x8 ||| x9)) = 0 then ((gR h a0 2 3).bind fun x10 => (sI h 0 x10 a1 a2).bind fun h11 => some (((0 : Int32), h11))) else (some (((2 : Int32), h))) else none))) else (if oK h a0 2 = true then (f_X2_hasPlace h a0 a2).bind fun x12 => if x12 = 0 then (some (((-1 : Int32), h))) else (if oK h a0 2 = true then (f_X2_hasPlace h a0 (a2 + a1)).bind fun x13 => if x13 = 0 then (some (((-1 : Int32), h))) else ((gR h a0 2 3).bind fun x14 => (aI h 0 x14 a1).bind fun x15 => if x15 = a2 then (some (((1 : Int32), h))) else (if a2 = 0 then ((gR h a0 2 3).bind fun x16 => (sI h 0 x16 a1 a2).bind fun h17 => some (((0 : Int32), h17))) else ((gI h a0 2 1).bind fun x18 => if oK h a0 2 = true then (f_X2_pinnedPlaces h a0 a1).bind fun x19 => (f_X6_bit h a2).bind fun x20 => (f_X6_bit h (a2 + a1)).bind fun x21 => if ((x18 ||| x19) &&& (x20 ||| x21)) = 0 then ((gR h a0 2 3).bind fun x22 => (sI h 0 x22 a1 a2).bind fun h23 => some (((0 : Int32), h23))) else (some (((2 : Int32), h))) else none))) else none) else none)) else none
set_option maxHeartbeats 4000000 in
set_option maxRecDepth 100000 in
theorem t_X2_setPin {g : GT} {l : Launch} {h : Hp} {a0 : Nat} {a1 : Int32} {a2 : Int32} {r : (Int32 × Hp)} (hf : f_X2_setPin h a0 a1 a2 = some r) : PM g l 3 0 0 yX2_setPin wsX2_setPin [.ref a0, .int a1, .int a2] h (fun r9 h9 => r9 = some (.int r.1) ∧ h9 = r.2) := by
  refine pm_of (M := m_X2_setPin) (by decide) rfl rfl rfl (Nat.le_of_ble_eq_true rfl) (lo := [some (.ref a0), some (.int a1), some (.int a2)]) rfl ?_
  rw [f_X2_setPin] at hf
  refine pw_aload_n dX2_setPin_0 rfl ?_
  refine pw_iload_n dX2_setPin_1 rfl ?_
  refine q_callV_i (kc2 := 0) (ks2 := 0) (as := [.int a1]) (rest := []) hf (fun x9 e9 => t_X2_hasPair e9) gX2_setPin_X2_hasPair rfl hd9_X2_hasPair rfl rfl ⟨(by decide), by decide⟩ ⟨rfl, rfl⟩ (Nat.le_of_ble_eq_true rfl) dX2_setPin_2 rfl (fun x1 hf => ?_)
  refine q_if_eq (tgt := 30) hf dX2_setPin_5 (by decide) (fun hf _ => ?_) (fun hf _ => ?_)
  · refine pw_iconst (v := (-1)) dX2_setPin_30 (by decide) ?_
    exact pw_iret (x := (-1 : Int32)) rfl rfl dX2_setPin_31 (ret_iw hf)
  · refine pw_iload_n dX2_setPin_8 rfl ?_
    refine q_if_eq (tgt := 32) hf dX2_setPin_9 (by decide) (fun hf _ => ?_) (fun hf _ => ?_)
    · refine pw_aload_n dX2_setPin_32 rfl ?_
      refine q_gR hf rfl (by decide) w9_X2_setPin_X2 (by decide +kernel) dX2_setPin_33 (fun x2 hf => ?_)
      refine pw_iload_n dX2_setPin_36 rfl ?_
      refine q_iald hf dX2_setPin_37 (fun x3 hf => ?_)
      refine pw_iload_n dX2_setPin_38 rfl ?_
      refine q_icmp_ne (tgt := 44) hf dX2_setPin_39 (by decide) (fun hf _ => ?_) (fun hf _ => ?_)
      · refine pw_iload_n dX2_setPin_44 rfl ?_
        refine q_if_eq (tgt := 75) hf dX2_setPin_45 (by decide) (fun hf _ => ?_) (fun hf _ => ?_)
        · refine pw_aload_n dX2_setPin_75 rfl ?_
          refine q_gR hf rfl (by decide) w9_X2_setPin_X2 (by decide +kernel) dX2_setPin_76 (fun x4 hf => ?_)
          refine pw_iload_n dX2_setPin_79 rfl ?_
          refine pw_iload_n dX2_setPin_80 rfl ?_
          refine q_iast hf dX2_setPin_81 (fun h5 hf => ?_)
          refine pw_iconst (v := (0)) dX2_setPin_82 (by decide) ?_
          exact pw_iret (x := (0 : Int32)) rfl rfl dX2_setPin_83 (ret_iw hf)
        · refine pw_aload_n dX2_setPin_48 rfl ?_
          refine q_gI hf rfl (by decide) w9_X2_setPin_X2 (by decide +kernel) dX2_setPin_49 (fun x6 hf => ?_)
          refine pw_aload_n dX2_setPin_52 rfl ?_
          refine pw_iload_n dX2_setPin_53 rfl ?_
          refine q_callV_i (kc2 := 0) (ks2 := 0) (as := [.int a1]) (rest := [.int x6]) hf (fun x9 e9 => t_X2_pinnedPlaces e9) gX2_setPin_X2_pinnedPlaces rfl hd9_X2_pinnedPlaces rfl rfl ⟨(by decide), by decide⟩ ⟨rfl, rfl⟩ (Nat.le_of_ble_eq_true rfl) dX2_setPin_54 rfl (fun x7 hf => ?_)
          refine pw_ior dX2_setPin_57 ?_
          refine pw_iload_n dX2_setPin_58 rfl ?_
          refine q_callSN_i (host := "TwinRows") (kc2 := 0) (ks2 := 0) (as := [.int a2]) (rest := [.int (x6 ||| x7)]) hf (fun x9 e9 => t_X6_bit e9) gX2_setPin_X6_bit_n41 (by decide +kernel) (by decide +kernel) (by decide +kernel) rfl hd9_X6_bit rfl ⟨(by decide), by decide⟩ ⟨rfl, rfl⟩ (Nat.le_of_ble_eq_true rfl) dX2_setPin_59 rfl (fun x8 hf => ?_)
          refine pw_iload_n dX2_setPin_62 rfl ?_
          refine pw_iload_n dX2_setPin_63 rfl ?_
          refine pw_iadd dX2_setPin_64 ?_
          refine q_callSN_i (host := "TwinRows") (kc2 := 0) (ks2 := 0) (as := [.int (a2 + a1)]) (rest := [.int x8, .int (x6 ||| x7)]) hf (fun x9 e9 => t_X6_bit e9) gX2_setPin_X6_bit_n41 (by decide +kernel) (by decide +kernel) (by decide +kernel) rfl hd9_X6_bit rfl ⟨(by decide), by decide⟩ ⟨rfl, rfl⟩ (Nat.le_of_ble_eq_true rfl) dX2_setPin_65 rfl (fun x9 hf => ?_)
          refine pw_ior dX2_setPin_68 ?_
          refine pw_iand dX2_setPin_69 ?_
          refine q_if_eq (tgt := 75) hf dX2_setPin_70 (by decide) (fun hf _ => ?_) (fun hf _ => ?_)
          · refine pw_aload_n dX2_setPin_75 rfl ?_
            refine q_gR hf rfl (by decide) w9_X2_setPin_X2 (by decide +kernel) dX2_setPin_76 (fun x10 hf => ?_)
            refine pw_iload_n dX2_setPin_79 rfl ?_
            refine pw_iload_n dX2_setPin_80 rfl ?_
            refine q_iast hf dX2_setPin_81 (fun h11 hf => ?_)
            refine pw_iconst (v := (0)) dX2_setPin_82 (by decide) ?_
            exact pw_iret (x := (0 : Int32)) rfl rfl dX2_setPin_83 (ret_iw hf)
          · refine pw_iconst (v := (2)) dX2_setPin_73 (by decide) ?_
            exact pw_iret (x := (2 : Int32)) rfl rfl dX2_setPin_74 (ret_iw hf)
      · refine pw_iconst (v := (1)) dX2_setPin_42 (by decide) ?_
        exact pw_iret (x := (1 : Int32)) rfl rfl dX2_setPin_43 (ret_iw hf)
    · refine pw_aload_n dX2_setPin_12 rfl ?_
      refine pw_iload_n dX2_setPin_13 rfl ?_
      refine q_callV_i (kc2 := 0) (ks2 := 0) (as := [.int a2]) (rest := []) hf (fun x9 e9 => t_X2_hasPlace e9) gX2_setPin_X2_hasPlace rfl hd9_X2_hasPlace rfl rfl ⟨(by decide), by decide⟩ ⟨rfl, rfl⟩ (Nat.le_of_ble_eq_true rfl) dX2_setPin_14 rfl (fun x12 hf => ?_)
      refine q_if_eq (tgt := 30) hf dX2_setPin_17 (by decide) (fun hf _ => ?_) (fun hf _ => ?_)
      · refine pw_iconst (v := (-1)) dX2_setPin_30 (by decide) ?_
        exact pw_iret (x := (-1 : Int32)) rfl rfl dX2_setPin_31 (ret_iw hf)
      · refine pw_aload_n dX2_setPin_20 rfl ?_
        refine pw_iload_n dX2_setPin_21 rfl ?_
        refine pw_iload_n dX2_setPin_22 rfl ?_
        refine pw_iadd dX2_setPin_23 ?_
        refine q_callV_i (kc2 := 0) (ks2 := 0) (as := [.int (a2 + a1)]) (rest := []) hf (fun x9 e9 => t_X2_hasPlace e9) gX2_setPin_X2_hasPlace rfl hd9_X2_hasPlace rfl rfl ⟨(by decide), by decide⟩ ⟨rfl, rfl⟩ (Nat.le_of_ble_eq_true rfl) dX2_setPin_24 rfl (fun x13 hf => ?_)
        refine q_if_ne (tgt := 32) hf dX2_setPin_27 (by decide) (fun hf _ => ?_) (fun hf _ => ?_)
        · refine pw_aload_n dX2_setPin_32 rfl ?_
          refine q_gR hf rfl (by decide) w9_X2_setPin_X2 (by decide +kernel) dX2_setPin_33 (fun x14 hf => ?_)
          refine pw_iload_n dX2_setPin_36 rfl ?_
          refine q_iald hf dX2_setPin_37 (fun x15 hf => ?_)
          refine pw_iload_n dX2_setPin_38 rfl ?_
          refine q_icmp_ne (tgt := 44) hf dX2_setPin_39 (by decide) (fun hf _ => ?_) (fun hf _ => ?_)
          · refine pw_iload_n dX2_setPin_44 rfl ?_
            refine q_if_eq (tgt := 75) hf dX2_setPin_45 (by decide) (fun hf _ => ?_) (fun hf _ => ?_)
            · refine pw_aload_n dX2_setPin_75 rfl ?_
              refine q_gR hf rfl (by decide) w9_X2_setPin_X2 (by decide +kernel) dX2_setPin_76 (fun x16 hf => ?_)
              refine pw_iload_n dX2_setPin_79 rfl ?_
              refine pw_iload_n dX2_setPin_80 rfl ?_
              refine q_iast hf dX2_setPin_81 (fun h17 hf => ?_)
              refine pw_iconst (v := (0)) dX2_setPin_82 (by decide) ?_
              exact pw_iret (x := (0 : Int32)) rfl rfl dX2_setPin_83 (ret_iw hf)
            · refine pw_aload_n dX2_setPin_48 rfl ?_
              refine q_gI hf rfl (by decide) w9_X2_setPin_X2 (by decide +kernel) dX2_setPin_49 (fun x18 hf => ?_)
              refine pw_aload_n dX2_setPin_52 rfl ?_
              refine pw_iload_n dX2_setPin_53 rfl ?_
              refine q_callV_i (kc2 := 0) (ks2 := 0) (as := [.int a1]) (rest := [.int x18]) hf (fun x9 e9 => t_X2_pinnedPlaces e9) gX2_setPin_X2_pinnedPlaces rfl hd9_X2_pinnedPlaces rfl rfl ⟨(by decide), by decide⟩ ⟨rfl, rfl⟩ (Nat.le_of_ble_eq_true rfl) dX2_setPin_54 rfl (fun x19 hf => ?_)
              refine pw_ior dX2_setPin_57 ?_
              refine pw_iload_n dX2_setPin_58 rfl ?_
              refine q_callSN_i (host := "TwinRows") (kc2 := 0) (ks2 := 0) (as := [.int a2]) (rest := [.int (x18 ||| x19)]) hf (fun x9 e9 => t_X6_bit e9) gX2_setPin_X6_bit_n41 (by decide +kernel) (by decide +kernel) (by decide +kernel) rfl hd9_X6_bit rfl ⟨(by decide), by decide⟩ ⟨rfl, rfl⟩ (Nat.le_of_ble_eq_true rfl) dX2_setPin_59 rfl (fun x20 hf => ?_)
              refine pw_iload_n dX2_setPin_62 rfl ?_
              refine pw_iload_n dX2_setPin_63 rfl ?_
              refine pw_iadd dX2_setPin_64 ?_
              refine q_callSN_i (host := "TwinRows") (kc2 := 0) (ks2 := 0) (as := [.int (a2 + a1)]) (rest := [.int x20, .int (x18 ||| x19)]) hf (fun x9 e9 => t_X6_bit e9) gX2_setPin_X6_bit_n41 (by decide +kernel) (by decide +kernel) (by decide +kernel) rfl hd9_X6_bit rfl ⟨(by decide), by decide⟩ ⟨rfl, rfl⟩ (Nat.le_of_ble_eq_true rfl) dX2_setPin_65 rfl (fun x21 hf => ?_)
              refine pw_ior dX2_setPin_68 ?_
              refine pw_iand dX2_setPin_69 ?_
              refine q_if_eq (tgt := 75) hf dX2_setPin_70 (by decide) (fun hf _ => ?_) (fun hf _ => ?_)
              · refine pw_aload_n dX2_setPin_75 rfl ?_
                refine q_gR hf rfl (by decide) w9_X2_setPin_X2 (by decide +kernel) dX2_setPin_76 (fun x22 hf => ?_)
                refine pw_iload_n dX2_setPin_79 rfl ?_
                refine pw_iload_n dX2_setPin_80 rfl ?_
                refine q_iast hf dX2_setPin_81 (fun h23 hf => ?_)
                refine pw_iconst (v := (0)) dX2_setPin_82 (by decide) ?_
                exact pw_iret (x := (0 : Int32)) rfl rfl dX2_setPin_83 (ret_iw hf)
              · refine pw_iconst (v := (2)) dX2_setPin_73 (by decide) ?_
                exact pw_iret (x := (2 : Int32)) rfl rfl dX2_setPin_74 (ret_iw hf)
          · refine pw_iconst (v := (1)) dX2_setPin_42 (by decide) ?_
            exact pw_iret (x := (1 : Int32)) rfl rfl dX2_setPin_43 (ret_iw hf)
        · refine pw_iconst (v := (-1)) dX2_setPin_30 (by decide) ?_
          exact pw_iret (x := (-1 : Int32)) rfl rfl dX2_setPin_31 (ret_iw hf)
/-! J7_fill_53178 -/
abbrev m_J7_fill_53178 : MD := (cJ7_fill_53178, RJ7, "fill", wsJ7_fill_53178, 4, none)
theorem hd9_J7_fill_53178 : yJ7_fill_53178.cls ≠ "java/lang/invoke/MethodHandle" ∧ yJ7_fill_53178.cls ≠ "java/lang/invoke/VarHandle" ∧ (parseMethodDescriptor yJ7_fill_53178.desc).map (fun d => d.parameters.length) = some 2 := by decide +kernel
def f_J7_fill_53178_5 : Nat → Nat → Int32 → Int32 → Int32 → Hp → Option Hp
  | 0, _, _, _, _, _ => none
  | n + 1, v0, v1, v2, v3, h => if v3 ≤ v2 then (some h) else ((sI h 0 v0 v2 v1).bind fun h1 => f_J7_fill_53178_5 n v0 v1 (v2 + (1)) v3 h1)
set_option maxHeartbeats 4000000 in
set_option maxRecDepth 100000 in
theorem w_J7_fill_53178_5 {g : GT} {l : Launch} {r : Hp} : ∀ (n : Nat) (v0 : Nat) (v1 : Int32) (v2 : Int32) (v3 : Int32) (h : Hp), f_J7_fill_53178_5 n v0 v1 v2 v3 h = some r → PW g l m_J7_fill_53178 1 0 0 5 [some (.ref v0), some (.int v1), some (.int v2), some (.int v3)] [] h (fun r9 h9 => r9 = none ∧ h9 = r) := by
  intro n
  induction n with
  | zero => intro v0 v1 v2 v3 h hf; cases hf
  | succ n ih =>
    intro v0 v1 v2 v3 h hf
    rw [f_J7_fill_53178_5] at hf
    refine pw_iload_n dJ7_fill_53178_5 rfl ?_
    refine pw_iload_n dJ7_fill_53178_6 rfl ?_
    refine q_icmp_ge (tgt := 20) hf dJ7_fill_53178_7 (by decide) (fun hf _ => ?_) (fun hf _ => ?_)
    · exact pw_vret rfl dJ7_fill_53178_20 ⟨rfl, Option.some.inj hf⟩
    · refine pw_aload_n dJ7_fill_53178_10 rfl ?_
      refine pw_iload_n dJ7_fill_53178_11 rfl ?_
      refine pw_iload_n dJ7_fill_53178_12 rfl ?_
      refine q_iast hf dJ7_fill_53178_13 (fun h1 hf => ?_)
      refine pw_iinc (v := v2 + (1)) dJ7_fill_53178_14 rfl rfl (by decide) rfl ?_
      dsimp only [lset, lset2, clr]
      refine pw_goto (tgt := 5) dJ7_fill_53178_17 (by decide) ?_
      exact pw_lo (lle_s rfl (lle_s rfl (lle_s rfl (lle_s rfl lle_0)))) (ih _ _ _ _ _ hf)
def f_J7_fill_53178 (h : Hp) (a0 : Nat) (a1 : Int32) : Option Hp := (aN h a0).bind fun x1 => f_J7_fill_53178_5 4096 a0 a1 (0 : Int32) x1 h
set_option maxHeartbeats 4000000 in
set_option maxRecDepth 100000 in
theorem t_J7_fill_53178 {g : GT} {l : Launch} {h : Hp} {a0 : Nat} {a1 : Int32} {r : Hp} (hf : f_J7_fill_53178 h a0 a1 = some r) : PM g l 1 0 0 yJ7_fill_53178 wsJ7_fill_53178 [.ref a0, .int a1] h (fun r9 h9 => r9 = none ∧ h9 = r) := by
  refine pm_of (M := m_J7_fill_53178) (by decide) rfl rfl rfl (Nat.le_of_ble_eq_true rfl) (lo := [some (.ref a0), some (.int a1), none, none]) rfl ?_
  rw [f_J7_fill_53178] at hf
  refine pw_iconst (v := (0)) dJ7_fill_53178_0 (by decide) ?_
  refine pw_istore_n dJ7_fill_53178_1 (by decide) rfl ?_
  dsimp only [lset, lset2, clr]
  refine pw_aload_n dJ7_fill_53178_2 rfl ?_
  refine q_alen hf dJ7_fill_53178_3 (fun x1 hf => ?_)
  refine pw_istore_n dJ7_fill_53178_4 (by decide) rfl ?_
  dsimp only [lset, lset2, clr]
  exact pw_lo (lle_s rfl (lle_s rfl (lle_s rfl (lle_s rfl lle_0)))) (w_J7_fill_53178_5 4096 _ _ _ _ _ hf)
/-! X2_init -/
abbrev m_X2_init : MD := (cX2_init, RX2, "<init>", wsX2_init, 1, none)
theorem w9_X2_init_X2 : ∀ w ∈ u_ws RX2 TX2 4, w ∈ wsX2_init := by decide +kernel
theorem hd9_X2_init : yX2_init.cls = RX2 ∧ yX2_init.cls ≠ "java/lang/invoke/MethodHandle" ∧ yX2_init.cls ≠ "java/lang/invoke/VarHandle" ∧ (parseMethodDescriptor yX2_init.desc).map (fun d => d.parameters.length) = some 0 := by decide +kernel
def f_X2_init (h : Hp) (a0 : Nat) : Option Hp := (pV h a0 2 0 (.int (0 : Int32))).bind fun h1 => (pV h1 a0 2 1 (.int (0 : Int32))).bind fun h2 => (pV h2 a0 2 2 (.int (0 : Int32))).bind fun h3 => (nA h3 0 16 (16 : Int32)).bind fun x4 => (pV x4.2 a0 2 3 (.ref x4.1)).bind fun h5 => some h5
theorem hd8_X2_init : yX2_init.cls ≠ "java/lang/invoke/MethodHandle" ∧ yX2_init.cls ≠ "java/lang/invoke/VarHandle" ∧ (parseMethodDescriptor yX2_init.desc).map (fun d => d.parameters.length) = some 0 := hd9_X2_init.2
set_option maxHeartbeats 4000000 in
set_option maxRecDepth 100000 in
theorem t_X2_init {g : GT} {l : Launch} {h : Hp} {a0 : Nat} {r : Hp} (hf : f_X2_init h a0 = some r) : PM g l 1 1 16 yX2_init wsX2_init [.ref a0] h (fun r9 h9 => r9 = none ∧ h9 = r) := by
  refine pm_of (M := m_X2_init) (by decide) rfl rfl rfl (Nat.le_of_ble_eq_true rfl) (lo := [some (.ref a0)]) rfl ?_
  rw [f_X2_init] at hf
  refine pw_aload_n dX2_init_0 rfl ?_
  refine pw_obj (by decide +kernel) (by decide +kernel) (by decide +kernel) (by decide) (Nat.le_of_ble_eq_true rfl) dX2_init_1 ?_
  refine pw_aload_n dX2_init_4 rfl ?_
  refine pw_iconst (v := (0)) dX2_init_5 (by decide) ?_
  refine q_pV (ty := .int) hf tyX2 tyX2_ok nmX2 rfl (by decide) w9_X2_init_X2 (by decide +kernel) rfl (by decide +kernel) rfl rfl dX2_init_6 (fun h1 hf => ?_)
  refine pw_aload_n dX2_init_9 rfl ?_
  refine pw_iconst (v := (0)) dX2_init_10 (by decide) ?_
  refine q_pV (ty := .int) hf tyX2 tyX2_ok nmX2 rfl (by decide) w9_X2_init_X2 (by decide +kernel) rfl (by decide +kernel) rfl rfl dX2_init_11 (fun h2 hf => ?_)
  refine pw_aload_n dX2_init_14 rfl ?_
  refine pw_iconst (v := (0)) dX2_init_15 (by decide) ?_
  refine q_pV (ty := .int) hf tyX2 tyX2_ok nmX2 rfl (by decide) w9_X2_init_X2 (by decide +kernel) rfl (by decide +kernel) rfl rfl dX2_init_16 (fun h3 hf => ?_)
  refine pw_aload_n dX2_init_19 rfl ?_
  refine pw_bipush (v := (16)) dX2_init_20 (by decide) ?_
  refine q_newa (kc2 := 0) (ks2 := 0) hf (by decide) rfl (by decide +kernel) (by decide) ⟨rfl, rfl⟩ dX2_init_22 (fun x4 hf => ?_)
  refine q_pVF (ty := .array .int) hf tyX2 tyX2_ok nmX2 rfl (by decide) w9_X2_init_X2 (by decide +kernel) rfl rfl rfl (by decide +kernel) rfl rfl dX2_init_24 (fun h5 hf => ?_)
  exact pw_vret rfl dX2_init_27 ⟨rfl, Option.some.inj hf⟩
/-! X2_begin -/
abbrev m_X2_begin : MD := (cX2_begin, RX2, "begin", wsX2_begin, 4, none)
theorem w9_X2_begin_X2 : ∀ w ∈ u_ws RX2 TX2 4, w ∈ wsX2_begin := by decide +kernel
theorem hd9_X2_begin : yX2_begin.cls = RX2 ∧ yX2_begin.cls ≠ "java/lang/invoke/MethodHandle" ∧ yX2_begin.cls ≠ "java/lang/invoke/VarHandle" ∧ (parseMethodDescriptor yX2_begin.desc).map (fun d => d.parameters.length) = some 3 := by decide +kernel
def f_X2_begin (h : Hp) (a0 : Nat) (a1 : Int32) (a2 : Int32) (a3 : Int32) : Option Hp := (pV h a0 2 0 (.int a1)).bind fun h1 => (pV h1 a0 2 1 (.int a2)).bind fun h2 => (pV h2 a0 2 2 (.int a3)).bind fun h3 => (gR h3 a0 2 3).bind fun x4 => (f_J7_fill_53178 h3 x4 (0 : Int32)).bind fun h5 => some h5
set_option maxHeartbeats 4000000 in
set_option maxRecDepth 100000 in
theorem t_X2_begin {g : GT} {l : Launch} {h : Hp} {a0 : Nat} {a1 : Int32} {a2 : Int32} {a3 : Int32} {r : Hp} (hf : f_X2_begin h a0 a1 a2 a3 = some r) : PM g l 2 0 0 yX2_begin wsX2_begin [.ref a0, .int a1, .int a2, .int a3] h (fun r9 h9 => r9 = none ∧ h9 = r) := by
  refine pm_of (M := m_X2_begin) (by decide) rfl rfl rfl (Nat.le_of_ble_eq_true rfl) (lo := [some (.ref a0), some (.int a1), some (.int a2), some (.int a3)]) rfl ?_
  rw [f_X2_begin] at hf
  refine pw_aload_n dX2_begin_0 rfl ?_
  refine pw_iload_n dX2_begin_1 rfl ?_
  refine q_pV (ty := .int) hf tyX2 tyX2_ok nmX2 rfl (by decide) w9_X2_begin_X2 (by decide +kernel) rfl (by decide +kernel) rfl rfl dX2_begin_2 (fun h1 hf => ?_)
  refine pw_aload_n dX2_begin_5 rfl ?_
  refine pw_iload_n dX2_begin_6 rfl ?_
  refine q_pV (ty := .int) hf tyX2 tyX2_ok nmX2 rfl (by decide) w9_X2_begin_X2 (by decide +kernel) rfl (by decide +kernel) rfl rfl dX2_begin_7 (fun h2 hf => ?_)
  refine pw_aload_n dX2_begin_10 rfl ?_
  refine pw_iload_n dX2_begin_11 rfl ?_
  refine q_pV (ty := .int) hf tyX2 tyX2_ok nmX2 rfl (by decide) w9_X2_begin_X2 (by decide +kernel) rfl (by decide +kernel) rfl rfl dX2_begin_12 (fun h3 hf => ?_)
  refine pw_aload_n dX2_begin_15 rfl ?_
  refine q_gR hf rfl (by decide) w9_X2_begin_X2 (by decide +kernel) dX2_begin_16 (fun x4 hf => ?_)
  refine pw_iconst (v := (0)) dX2_begin_19 (by decide) ?_
  refine q_callS_v (kc2 := 0) (ks2 := 0) (as := [.ref x4, .int (0 : Int32)]) (rest := []) hf (fun x9 e9 => t_J7_fill_53178 e9) gX2_begin_J7_fill_53178 rfl hd9_J7_fill_53178 rfl ⟨(by decide), by decide⟩ ⟨rfl, rfl⟩ (Nat.le_of_ble_eq_true rfl) dX2_begin_20 rfl (fun h5 hf => ?_)
  exact pw_vret rfl dX2_begin_23 ⟨rfl, Option.some.inj hf⟩
/-! X2_copy -/
abbrev m_X2_copy : MD := (cX2_copy, RX2, "copy", wsX2_copy, 2, none)
theorem w9_X2_copy_X2 : ∀ w ∈ u_ws RX2 TX2 4, w ∈ wsX2_copy := by decide +kernel
theorem hd9_X2_copy : yX2_copy.cls = RX2 ∧ yX2_copy.cls ≠ "java/lang/invoke/MethodHandle" ∧ yX2_copy.cls ≠ "java/lang/invoke/VarHandle" ∧ (parseMethodDescriptor yX2_copy.desc).map (fun d => d.parameters.length) = some 1 := by decide +kernel
def f_X2_copy (h : Hp) (a0 : Nat) (a1 : Nat) : Option Hp := (gI h a1 2 0).bind fun x1 => (pV h a0 2 0 (.int x1)).bind fun h2 => (gI h2 a1 2 1).bind fun x3 => (pV h2 a0 2 1 (.int x3)).bind fun h4 => (gI h4 a1 2 2).bind fun x5 => (pV h4 a0 2 2 (.int x5)).bind fun h6 => (gR h6 a1 2 3).bind fun x7 => (gR h6 a0 2 3).bind fun x8 => (gR h6 a0 2 3).bind fun x9 => (aN h6 x9).bind fun x10 => (cpA h6 0 x7 (0 : Int32) x8 (0 : Int32) x10).bind fun h11 => some h11
set_option maxHeartbeats 4000000 in
set_option maxRecDepth 100000 in
theorem t_X2_copy {g : GT} {l : Launch} {h : Hp} {a0 : Nat} {a1 : Nat} {r : Hp} (hf : f_X2_copy h a0 a1 = some r) : PM g l 1 0 0 yX2_copy wsX2_copy [.ref a0, .ref a1] h (fun r9 h9 => r9 = none ∧ h9 = r) := by
  refine pm_of (M := m_X2_copy) (by decide) rfl rfl rfl (Nat.le_of_ble_eq_true rfl) (lo := [some (.ref a0), some (.ref a1)]) rfl ?_
  rw [f_X2_copy] at hf
  refine pw_aload_n dX2_copy_0 rfl ?_
  refine pw_aload_n dX2_copy_1 rfl ?_
  refine q_gI hf rfl (by decide) w9_X2_copy_X2 (by decide +kernel) dX2_copy_2 (fun x1 hf => ?_)
  refine q_pV (ty := .int) hf tyX2 tyX2_ok nmX2 rfl (by decide) w9_X2_copy_X2 (by decide +kernel) rfl (by decide +kernel) rfl rfl dX2_copy_5 (fun h2 hf => ?_)
  refine pw_aload_n dX2_copy_8 rfl ?_
  refine pw_aload_n dX2_copy_9 rfl ?_
  refine q_gI hf rfl (by decide) w9_X2_copy_X2 (by decide +kernel) dX2_copy_10 (fun x3 hf => ?_)
  refine q_pV (ty := .int) hf tyX2 tyX2_ok nmX2 rfl (by decide) w9_X2_copy_X2 (by decide +kernel) rfl (by decide +kernel) rfl rfl dX2_copy_13 (fun h4 hf => ?_)
  refine pw_aload_n dX2_copy_16 rfl ?_
  refine pw_aload_n dX2_copy_17 rfl ?_
  refine q_gI hf rfl (by decide) w9_X2_copy_X2 (by decide +kernel) dX2_copy_18 (fun x5 hf => ?_)
  refine q_pV (ty := .int) hf tyX2 tyX2_ok nmX2 rfl (by decide) w9_X2_copy_X2 (by decide +kernel) rfl (by decide +kernel) rfl rfl dX2_copy_21 (fun h6 hf => ?_)
  refine pw_aload_n dX2_copy_24 rfl ?_
  refine q_gR hf rfl (by decide) w9_X2_copy_X2 (by decide +kernel) dX2_copy_25 (fun x7 hf => ?_)
  refine pw_iconst (v := (0)) dX2_copy_28 (by decide) ?_
  refine pw_aload_n dX2_copy_29 rfl ?_
  refine q_gR hf rfl (by decide) w9_X2_copy_X2 (by decide +kernel) dX2_copy_30 (fun x8 hf => ?_)
  refine pw_iconst (v := (0)) dX2_copy_33 (by decide) ?_
  refine pw_aload_n dX2_copy_34 rfl ?_
  refine q_gR hf rfl (by decide) w9_X2_copy_X2 (by decide +kernel) dX2_copy_35 (fun x9 hf => ?_)
  refine q_alen hf dX2_copy_38 (fun x10 hf => ?_)
  refine q_copy hf (by decide) (by decide) (by decide +kernel) (by decide +kernel) (by decide +kernel) (by decide +kernel) (by decide) (Nat.le_of_ble_eq_true rfl) dX2_copy_39 (fun h11 hf => ?_)
  exact pw_vret rfl dX2_copy_42 ⟨rfl, Option.some.inj hf⟩
