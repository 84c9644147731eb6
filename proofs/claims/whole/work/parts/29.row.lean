/-! X6_row -/
abbrev m_X6_row : MD := (cX6_row, RX6, "row", wsX6_row, 3, (some .int))
theorem w9_X6_row_X2 : ∀ w ∈ u_ws RX2 TX2 4, w ∈ wsX6_row := by decide +kernel
theorem w9_X6_row_X6 : ∀ w ∈ u_ws RX6 TX6 14, w ∈ wsX6_row := by decide +kernel
theorem hd9_X6_row : yX6_row.cls = RX6 ∧ yX6_row.cls ≠ "java/lang/invoke/MethodHandle" ∧ yX6_row.cls ≠ "java/lang/invoke/VarHandle" ∧ (parseMethodDescriptor yX6_row.desc).map (fun d => d.parameters.length) = some 1 := by decide +kernel
def f_X6_row_21 (v0 : Nat) (v1 : Int32) (v2 : Nat) (h : Hp) : Option (Int32 × Hp) := (gR h v0 6 13).bind fun x1 => if oK h v2 1 = true then (f_X1_tell h v2 v1 x1).bind fun h2 => (gR h2 v0 6 12).bind fun x3 => (gR h2 v0 6 13).bind fun x4 => (gR h2 v0 6 4).bind fun x5 => (gI h2 x5 2 0).bind fun x6 => if oK h2 x3 4 = true then (f_X4_take h2 x3 x4 x6).bind fun h7 => (gR h7 v0 6 12).bind fun x8 => if oK h7 x8 4 = true then (f_X4_numberAt h7 x8 (1 : Int32)).bind fun x9 => some ((x9, h7)) else none else none else none
set_option maxHeartbeats 4000000 in
set_option maxRecDepth 100000 in
theorem w_X6_row_21 {g : GT} {l : Launch} {r : (Int32 × Hp)} : ∀ (v0 : Nat) (v1 : Int32) (v2 : Nat) (h : Hp), f_X6_row_21 v0 v1 v2 h = some r → PW g l m_X6_row 4 0 0 21 [some (.ref v0), some (.int v1), some (.ref v2)] [] h (fun r9 h9 => r9 = some (.int r.1) ∧ h9 = r.2) := by
  intro v0 v1 v2 h hf
  rw [f_X6_row_21] at hf
  refine pw_aload_n dX6_row_21 rfl ?_
  refine pw_iload_n dX6_row_22 rfl ?_
  refine pw_aload_n dX6_row_23 rfl ?_
  refine q_gR hf rfl (by decide) w9_X6_row_X6 (by decide +kernel) dX6_row_24 (fun x1 hf => ?_)
  refine q_callV_v (kc2 := 0) (ks2 := 0) (as := [.int v1, .ref x1]) (rest := []) hf (fun x9 e9 => t_X1_tell e9) gX6_row_X1_tell rfl hd9_X1_tell rfl rfl ⟨(by decide), by decide⟩ ⟨rfl, rfl⟩ (Nat.le_of_ble_eq_true rfl) dX6_row_27 rfl (fun h2 hf => ?_)
  refine pw_aload_n dX6_row_30 rfl ?_
  refine q_gR hf rfl (by decide) w9_X6_row_X6 (by decide +kernel) dX6_row_31 (fun x3 hf => ?_)
  refine pw_aload_n dX6_row_34 rfl ?_
  refine q_gR hf rfl (by decide) w9_X6_row_X6 (by decide +kernel) dX6_row_35 (fun x4 hf => ?_)
  refine pw_aload_n dX6_row_38 rfl ?_
  refine q_gR hf rfl (by decide) w9_X6_row_X6 (by decide +kernel) dX6_row_39 (fun x5 hf => ?_)
  refine q_gIN (host := "TwinRows") hf rfl (by decide) w9_X6_row_X2 (by decide +kernel) dX6_row_42 (fun x6 hf => ?_)
  refine q_callV_v (kc2 := 0) (ks2 := 0) (as := [.ref x4, .int x6]) (rest := []) hf (fun x9 e9 => t_X4_take e9) gX6_row_X4_take rfl hd9_X4_take rfl rfl ⟨(by decide), by decide⟩ ⟨rfl, rfl⟩ (Nat.le_of_ble_eq_true rfl) dX6_row_45 rfl (fun h7 hf => ?_)
  refine pw_aload_n dX6_row_48 rfl ?_
  refine q_gR hf rfl (by decide) w9_X6_row_X6 (by decide +kernel) dX6_row_49 (fun x8 hf => ?_)
  refine pw_iconst (v := (1)) dX6_row_52 (by decide) ?_
  refine q_callV_i (kc2 := 0) (ks2 := 0) (as := [.int (1 : Int32)]) (rest := []) hf (fun x9 e9 => t_X4_numberAt e9) gX6_row_X4_numberAt rfl hd9_X4_numberAt rfl rfl ⟨(by decide), by decide⟩ ⟨rfl, rfl⟩ (Nat.le_of_ble_eq_true rfl) dX6_row_53 rfl (fun x9 hf => ?_)
  exact pw_iret (x := x9) rfl rfl dX6_row_56 (ret_iw hf)
