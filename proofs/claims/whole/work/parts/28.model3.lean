/-! X7_two -/
abbrev m_X7_two : MD := (cX7_two, RX7, "two", wsX7_two, 4, none)
theorem w9_X7_two_X7 : ∀ w ∈ u_ws RX7 TX7 31, w ∈ wsX7_two := by decide +kernel
theorem hd9_X7_two : yX7_two.cls = RX7 ∧ yX7_two.cls ≠ "java/lang/invoke/MethodHandle" ∧ yX7_two.cls ≠ "java/lang/invoke/VarHandle" ∧ (parseMethodDescriptor yX7_two.desc).map (fun d => d.parameters.length) = some 2 := by decide +kernel
def f_X7_two (h : Hp) (a0 : Nat) (a1 : Int32) (a2 : Int32) : Option Hp := if a2 ≤ a1 then ((gR h a0 7 29).bind fun x1 => (sI h 0 x1 (a1 - (1 : Int32)) (a1 - a2)).bind fun h2 => (gR h2 a0 7 29).bind fun x3 => (sI h2 0 x3 (a2 - (1 : Int32)) (a1 - a2)).bind fun h4 => some h4) else ((gR h a0 7 29).bind fun x5 => (sI h 0 x5 (a1 - (1 : Int32)) (a2 - a1)).bind fun h6 => (gR h6 a0 7 29).bind fun x7 => (sI h6 0 x7 (a2 - (1 : Int32)) (a2 - a1)).bind fun h8 => some h8)
set_option maxHeartbeats 4000000 in
set_option maxRecDepth 100000 in
theorem t_X7_two {g : GT} {l : Launch} {h : Hp} {a0 : Nat} {a1 : Int32} {a2 : Int32} {r : Hp} (hf : f_X7_two h a0 a1 a2 = some r) : PM g l 1 0 0 yX7_two wsX7_two [.ref a0, .int a1, .int a2] h (fun r9 h9 => r9 = none ∧ h9 = r) := by
  refine pm_of (M := m_X7_two) (by decide) rfl rfl rfl (Nat.le_of_ble_eq_true rfl) (lo := [some (.ref a0), some (.int a1), some (.int a2), none]) rfl ?_
  rw [f_X7_two] at hf
  refine pw_iload_n dX7_two_0 rfl ?_
  refine pw_iload_n dX7_two_1 rfl ?_
  refine q_icmp_le (tgt := 11) hf dX7_two_2 (by decide) (fun hf _ => ?_) (fun hf _ => ?_)
  · refine pw_iload_n dX7_two_11 rfl ?_
    refine pw_iload_n dX7_two_12 rfl ?_
    refine pw_isub dX7_two_13 ?_
    refine pw_istore_n dX7_two_14 (by decide) rfl ?_
    dsimp only [lset, lset2, clr]
    refine pw_aload_n dX7_two_15 rfl ?_
    refine q_gR hf rfl (by decide) w9_X7_two_X7 (by decide +kernel) dX7_two_16 (fun x1 hf => ?_)
    refine pw_iload_n dX7_two_19 rfl ?_
    refine pw_iconst (v := (1)) dX7_two_20 (by decide) ?_
    refine pw_isub dX7_two_21 ?_
    refine pw_iload_n dX7_two_22 rfl ?_
    refine q_iast hf dX7_two_23 (fun h2 hf => ?_)
    refine pw_aload_n dX7_two_24 rfl ?_
    refine q_gR hf rfl (by decide) w9_X7_two_X7 (by decide +kernel) dX7_two_25 (fun x3 hf => ?_)
    refine pw_iload_n dX7_two_28 rfl ?_
    refine pw_iconst (v := (1)) dX7_two_29 (by decide) ?_
    refine pw_isub dX7_two_30 ?_
    refine pw_iload_n dX7_two_31 rfl ?_
    refine q_iast hf dX7_two_32 (fun h4 hf => ?_)
    exact pw_vret rfl dX7_two_33 ⟨rfl, Option.some.inj hf⟩
  · refine pw_iload_n dX7_two_5 rfl ?_
    refine pw_iload_n dX7_two_6 rfl ?_
    refine pw_isub dX7_two_7 ?_
    refine pw_goto (tgt := 14) dX7_two_8 (by decide) ?_
    refine pw_istore_n dX7_two_14 (by decide) rfl ?_
    dsimp only [lset, lset2, clr]
    refine pw_aload_n dX7_two_15 rfl ?_
    refine q_gR hf rfl (by decide) w9_X7_two_X7 (by decide +kernel) dX7_two_16 (fun x5 hf => ?_)
    refine pw_iload_n dX7_two_19 rfl ?_
    refine pw_iconst (v := (1)) dX7_two_20 (by decide) ?_
    refine pw_isub dX7_two_21 ?_
    refine pw_iload_n dX7_two_22 rfl ?_
    refine q_iast hf dX7_two_23 (fun h6 hf => ?_)
    refine pw_aload_n dX7_two_24 rfl ?_
    refine q_gR hf rfl (by decide) w9_X7_two_X7 (by decide +kernel) dX7_two_25 (fun x7 hf => ?_)
    refine pw_iload_n dX7_two_28 rfl ?_
    refine pw_iconst (v := (1)) dX7_two_29 (by decide) ?_
    refine pw_isub dX7_two_30 ?_
    refine pw_iload_n dX7_two_31 rfl ?_
    refine q_iast hf dX7_two_32 (fun h8 hf => ?_)
    exact pw_vret rfl dX7_two_33 ⟨rfl, Option.some.inj hf⟩
/-! X7_laysFours -/
abbrev m_X7_laysFours : MD := (cX7_laysFours, RX7, "laysFours", wsX7_laysFours, 3, none)
theorem hd9_X7_laysFours : yX7_laysFours.cls = RX7 ∧ yX7_laysFours.cls ≠ "java/lang/invoke/MethodHandle" ∧ yX7_laysFours.cls ≠ "java/lang/invoke/VarHandle" ∧ (parseMethodDescriptor yX7_laysFours.desc).map (fun d => d.parameters.length) = some 1 := by decide +kernel
def f_X7_laysFours_71 : Nat → Nat → Int32 → Int32 → Hp → Option Hp
  | 0, _, _, _, _ => none
  | n + 1, v0, v1, v2, h => if v1 ≤ v2 then (if oK h v0 7 = true then (f_X7_two h v0 (((2 : Int32) * v1) + (1 : Int32)) ((6 : Int32) * v1)).bind fun h1 => if oK h1 v0 7 = true then (f_X7_two h1 v0 ((2 : Int32) * v1) (((4 : Int32) * v1) - (1 : Int32))).bind fun h2 => some h2 else none else none) else (if oK h v0 7 = true then (f_X7_two h v0 v2 ((((4 : Int32) * v1) - (1 : Int32)) - v2)).bind fun h3 => f_X7_laysFours_71 n v0 v1 (v2 + (1)) h3 else none)
set_option maxHeartbeats 4000000 in
set_option maxRecDepth 100000 in
theorem w_X7_laysFours_71 {g : GT} {l : Launch} {r : Hp} : ∀ (n : Nat) (v0 : Nat) (v1 : Int32) (v2 : Int32) (h : Hp), f_X7_laysFours_71 n v0 v1 v2 h = some r → PW g l m_X7_laysFours 2 0 0 71 [some (.ref v0), some (.int v1), some (.int v2)] [] h (fun r9 h9 => r9 = none ∧ h9 = r) := by
  intro n
  induction n with
  | zero => intro v0 v1 v2 h hf; cases hf
  | succ n ih =>
    intro v0 v1 v2 h hf
    rw [f_X7_laysFours_71] at hf
    refine pw_iload_n dX7_laysFours_71 rfl ?_
    refine pw_iload_n dX7_laysFours_72 rfl ?_
    refine q_icmp_ge (tgt := 94) hf dX7_laysFours_73 (by decide) (fun hf _ => ?_) (fun hf _ => ?_)
    · refine pw_aload_n dX7_laysFours_94 rfl ?_
      refine pw_iconst (v := (2)) dX7_laysFours_95 (by decide) ?_
      refine pw_iload_n dX7_laysFours_96 rfl ?_
      refine pw_imul dX7_laysFours_97 ?_
      refine pw_iconst (v := (1)) dX7_laysFours_98 (by decide) ?_
      refine pw_iadd dX7_laysFours_99 ?_
      refine pw_bipush (v := (6)) dX7_laysFours_100 (by decide) ?_
      refine pw_iload_n dX7_laysFours_102 rfl ?_
      refine pw_imul dX7_laysFours_103 ?_
      refine q_callV_v (kc2 := 0) (ks2 := 0) (as := [.int (((2 : Int32) * v1) + (1 : Int32)), .int ((6 : Int32) * v1)]) (rest := []) hf (fun x9 e9 => t_X7_two e9) gX7_laysFours_X7_two rfl hd9_X7_two rfl rfl ⟨(by decide), by decide⟩ ⟨rfl, rfl⟩ (Nat.le_of_ble_eq_true rfl) dX7_laysFours_104 rfl (fun h1 hf => ?_)
      refine pw_aload_n dX7_laysFours_107 rfl ?_
      refine pw_iconst (v := (2)) dX7_laysFours_108 (by decide) ?_
      refine pw_iload_n dX7_laysFours_109 rfl ?_
      refine pw_imul dX7_laysFours_110 ?_
      refine pw_iconst (v := (4)) dX7_laysFours_111 (by decide) ?_
      refine pw_iload_n dX7_laysFours_112 rfl ?_
      refine pw_imul dX7_laysFours_113 ?_
      refine pw_iconst (v := (1)) dX7_laysFours_114 (by decide) ?_
      refine pw_isub dX7_laysFours_115 ?_
      refine q_callV_v (kc2 := 0) (ks2 := 0) (as := [.int ((2 : Int32) * v1), .int (((4 : Int32) * v1) - (1 : Int32))]) (rest := []) hf (fun x9 e9 => t_X7_two e9) gX7_laysFours_X7_two rfl hd9_X7_two rfl rfl ⟨(by decide), by decide⟩ ⟨rfl, rfl⟩ (Nat.le_of_ble_eq_true rfl) dX7_laysFours_116 rfl (fun h2 hf => ?_)
      exact pw_vret rfl dX7_laysFours_119 ⟨rfl, Option.some.inj hf⟩
    · refine pw_aload_n dX7_laysFours_76 rfl ?_
      refine pw_iload_n dX7_laysFours_77 rfl ?_
      refine pw_iconst (v := (4)) dX7_laysFours_78 (by decide) ?_
      refine pw_iload_n dX7_laysFours_79 rfl ?_
      refine pw_imul dX7_laysFours_80 ?_
      refine pw_iconst (v := (1)) dX7_laysFours_81 (by decide) ?_
      refine pw_isub dX7_laysFours_82 ?_
      refine pw_iload_n dX7_laysFours_83 rfl ?_
      refine pw_isub dX7_laysFours_84 ?_
      refine q_callV_v (kc2 := 0) (ks2 := 0) (as := [.int v2, .int ((((4 : Int32) * v1) - (1 : Int32)) - v2)]) (rest := []) hf (fun x9 e9 => t_X7_two e9) gX7_laysFours_X7_two rfl hd9_X7_two rfl rfl ⟨(by decide), by decide⟩ ⟨rfl, rfl⟩ (Nat.le_of_ble_eq_true rfl) dX7_laysFours_85 rfl (fun h3 hf => ?_)
      refine pw_iinc (v := v2 + (1)) dX7_laysFours_88 rfl rfl (by decide) rfl ?_
      dsimp only [lset, lset2, clr]
      refine pw_goto (tgt := 71) dX7_laysFours_91 (by decide) ?_
      exact pw_lo (lle_s rfl (lle_s rfl (lle_s rfl lle_0))) (ih _ _ _ _ hf)
def f_X7_laysFours_40 : Nat → Nat → Int32 → Int32 → Hp → Option Hp
  | 0, _, _, _, _ => none
  | n + 1, v0, v1, v2, h => if (v1 - (3 : Int32)) < v2 then (f_X7_laysFours_71 4096 v0 v1 (1 : Int32) h) else (if oK h v0 7 = true then (f_X7_two h v0 ((v1 + (2 : Int32)) + v2) ((((3 : Int32) * v1) - (1 : Int32)) - v2)).bind fun h1 => f_X7_laysFours_40 n v0 v1 (v2 + (1)) h1 else none)
set_option maxHeartbeats 4000000 in
set_option maxRecDepth 100000 in
theorem w_X7_laysFours_40 {g : GT} {l : Launch} {r : Hp} : ∀ (n : Nat) (v0 : Nat) (v1 : Int32) (v2 : Int32) (h : Hp), f_X7_laysFours_40 n v0 v1 v2 h = some r → PW g l m_X7_laysFours 2 0 0 40 [some (.ref v0), some (.int v1), some (.int v2)] [] h (fun r9 h9 => r9 = none ∧ h9 = r) := by
  intro n
  induction n with
  | zero => intro v0 v1 v2 h hf; cases hf
  | succ n ih =>
    intro v0 v1 v2 h hf
    rw [f_X7_laysFours_40] at hf
    refine pw_iload_n dX7_laysFours_40 rfl ?_
    refine pw_iload_n dX7_laysFours_41 rfl ?_
    refine pw_iconst (v := (3)) dX7_laysFours_42 (by decide) ?_
    refine pw_isub dX7_laysFours_43 ?_
    refine q_icmp_gt (tgt := 69) hf dX7_laysFours_44 (by decide) (fun hf _ => ?_) (fun hf _ => ?_)
    · refine pw_iconst (v := (1)) dX7_laysFours_69 (by decide) ?_
      refine pw_istore_n dX7_laysFours_70 (by decide) rfl ?_
      dsimp only [lset, lset2, clr]
      exact pw_lo (lle_s rfl (lle_s rfl (lle_s rfl lle_0))) (w_X7_laysFours_71 4096 _ _ _ _ hf)
    · refine pw_aload_n dX7_laysFours_47 rfl ?_
      refine pw_iload_n dX7_laysFours_48 rfl ?_
      refine pw_iconst (v := (2)) dX7_laysFours_49 (by decide) ?_
      refine pw_iadd dX7_laysFours_50 ?_
      refine pw_iload_n dX7_laysFours_51 rfl ?_
      refine pw_iadd dX7_laysFours_52 ?_
      refine pw_iconst (v := (3)) dX7_laysFours_53 (by decide) ?_
      refine pw_iload_n dX7_laysFours_54 rfl ?_
      refine pw_imul dX7_laysFours_55 ?_
      refine pw_iconst (v := (1)) dX7_laysFours_56 (by decide) ?_
      refine pw_isub dX7_laysFours_57 ?_
      refine pw_iload_n dX7_laysFours_58 rfl ?_
      refine pw_isub dX7_laysFours_59 ?_
      refine q_callV_v (kc2 := 0) (ks2 := 0) (as := [.int ((v1 + (2 : Int32)) + v2), .int ((((3 : Int32) * v1) - (1 : Int32)) - v2)]) (rest := []) hf (fun x9 e9 => t_X7_two e9) gX7_laysFours_X7_two rfl hd9_X7_two rfl rfl ⟨(by decide), by decide⟩ ⟨rfl, rfl⟩ (Nat.le_of_ble_eq_true rfl) dX7_laysFours_60 rfl (fun h1 hf => ?_)
      refine pw_iinc (v := v2 + (1)) dX7_laysFours_63 rfl rfl (by decide) rfl ?_
      dsimp only [lset, lset2, clr]
      refine pw_goto (tgt := 40) dX7_laysFours_66 (by decide) ?_
      exact pw_lo (lle_s rfl (lle_s rfl (lle_s rfl lle_0))) (ih _ _ _ _ hf)
def f_X7_laysFours_2 : Nat → Nat → Int32 → Int32 → Hp → Option Hp
  | 0, _, _, _, _ => none
  | n + 1, v0, v1, v2, h => if ((2 : Int32) * v1) ≤ v2 then (if oK h v0 7 = true then (f_X7_two h v0 v1 (v1 + (1 : Int32))).bind fun h1 => f_X7_laysFours_40 4096 v0 v1 (0 : Int32) h1 else none) else (if oK h v0 7 = true then (f_X7_two h v0 (((4 : Int32) * v1) + v2) (((8 : Int32) * v1) - v2)).bind fun h2 => f_X7_laysFours_2 n v0 v1 (v2 + (1)) h2 else none)
set_option maxHeartbeats 4000000 in
set_option maxRecDepth 100000 in
theorem w_X7_laysFours_2 {g : GT} {l : Launch} {r : Hp} : ∀ (n : Nat) (v0 : Nat) (v1 : Int32) (v2 : Int32) (h : Hp), f_X7_laysFours_2 n v0 v1 v2 h = some r → PW g l m_X7_laysFours 2 0 0 2 [some (.ref v0), some (.int v1), some (.int v2)] [] h (fun r9 h9 => r9 = none ∧ h9 = r) := by
  intro n
  induction n with
  | zero => intro v0 v1 v2 h hf; cases hf
  | succ n ih =>
    intro v0 v1 v2 h hf
    rw [f_X7_laysFours_2] at hf
    refine pw_iload_n dX7_laysFours_2 rfl ?_
    refine pw_iconst (v := (2)) dX7_laysFours_3 (by decide) ?_
    refine pw_iload_n dX7_laysFours_4 rfl ?_
    refine pw_imul dX7_laysFours_5 ?_
    refine q_icmp_ge (tgt := 30) hf dX7_laysFours_6 (by decide) (fun hf _ => ?_) (fun hf _ => ?_)
    · refine pw_aload_n dX7_laysFours_30 rfl ?_
      refine pw_iload_n dX7_laysFours_31 rfl ?_
      refine pw_iload_n dX7_laysFours_32 rfl ?_
      refine pw_iconst (v := (1)) dX7_laysFours_33 (by decide) ?_
      refine pw_iadd dX7_laysFours_34 ?_
      refine q_callV_v (kc2 := 0) (ks2 := 0) (as := [.int v1, .int (v1 + (1 : Int32))]) (rest := []) hf (fun x9 e9 => t_X7_two e9) gX7_laysFours_X7_two rfl hd9_X7_two rfl rfl ⟨(by decide), by decide⟩ ⟨rfl, rfl⟩ (Nat.le_of_ble_eq_true rfl) dX7_laysFours_35 rfl (fun h1 hf => ?_)
      refine pw_iconst (v := (0)) dX7_laysFours_38 (by decide) ?_
      refine pw_istore_n dX7_laysFours_39 (by decide) rfl ?_
      dsimp only [lset, lset2, clr]
      exact pw_lo (lle_s rfl (lle_s rfl (lle_s rfl lle_0))) (w_X7_laysFours_40 4096 _ _ _ _ hf)
    · refine pw_aload_n dX7_laysFours_9 rfl ?_
      refine pw_iconst (v := (4)) dX7_laysFours_10 (by decide) ?_
      refine pw_iload_n dX7_laysFours_11 rfl ?_
      refine pw_imul dX7_laysFours_12 ?_
      refine pw_iload_n dX7_laysFours_13 rfl ?_
      refine pw_iadd dX7_laysFours_14 ?_
      refine pw_bipush (v := (8)) dX7_laysFours_15 (by decide) ?_
      refine pw_iload_n dX7_laysFours_17 rfl ?_
      refine pw_imul dX7_laysFours_18 ?_
      refine pw_iload_n dX7_laysFours_19 rfl ?_
      refine pw_isub dX7_laysFours_20 ?_
      refine q_callV_v (kc2 := 0) (ks2 := 0) (as := [.int (((4 : Int32) * v1) + v2), .int (((8 : Int32) * v1) - v2)]) (rest := []) hf (fun x9 e9 => t_X7_two e9) gX7_laysFours_X7_two rfl hd9_X7_two rfl rfl ⟨(by decide), by decide⟩ ⟨rfl, rfl⟩ (Nat.le_of_ble_eq_true rfl) dX7_laysFours_21 rfl (fun h2 hf => ?_)
      refine pw_iinc (v := v2 + (1)) dX7_laysFours_24 rfl rfl (by decide) rfl ?_
      dsimp only [lset, lset2, clr]
      refine pw_goto (tgt := 2) dX7_laysFours_27 (by decide) ?_
      exact pw_lo (lle_s rfl (lle_s rfl (lle_s rfl lle_0))) (ih _ _ _ _ hf)
def f_X7_laysFours (h : Hp) (a0 : Nat) (a1 : Int32) : Option Hp := f_X7_laysFours_2 4096 a0 a1 (0 : Int32) h
set_option maxHeartbeats 4000000 in
set_option maxRecDepth 100000 in
theorem t_X7_laysFours {g : GT} {l : Launch} {h : Hp} {a0 : Nat} {a1 : Int32} {r : Hp} (hf : f_X7_laysFours h a0 a1 = some r) : PM g l 2 0 0 yX7_laysFours wsX7_laysFours [.ref a0, .int a1] h (fun r9 h9 => r9 = none ∧ h9 = r) := by
  refine pm_of (M := m_X7_laysFours) (by decide) rfl rfl rfl (Nat.le_of_ble_eq_true rfl) (lo := [some (.ref a0), some (.int a1), none]) rfl ?_
  rw [f_X7_laysFours] at hf
  refine pw_iconst (v := (0)) dX7_laysFours_0 (by decide) ?_
  refine pw_istore_n dX7_laysFours_1 (by decide) rfl ?_
  dsimp only [lset, lset2, clr]
  exact pw_lo (lle_s rfl (lle_s rfl (lle_s rfl lle_0))) (w_X7_laysFours_2 4096 _ _ _ _ hf)
/-! X7_laysOnes -/
abbrev m_X7_laysOnes : MD := (cX7_laysOnes, RX7, "laysOnes", wsX7_laysOnes, 3, none)
theorem hd9_X7_laysOnes : yX7_laysOnes.cls = RX7 ∧ yX7_laysOnes.cls ≠ "java/lang/invoke/MethodHandle" ∧ yX7_laysOnes.cls ≠ "java/lang/invoke/VarHandle" ∧ (parseMethodDescriptor yX7_laysOnes.desc).map (fun d => d.parameters.length) = some 1 := by decide +kernel
def f_X7_laysOnes_100 : Nat → Nat → Int32 → Int32 → Hp → Option Hp
  | 0, _, _, _, _ => none
  | n + 1, v0, v1, v2, h => if (v1 - (2 : Int32)) < v2 then (some h) else (if oK h v0 7 = true then (f_X7_two h v0 ((v1 + (2 : Int32)) + v2) ((((3 : Int32) * v1) + (1 : Int32)) - v2)).bind fun h1 => f_X7_laysOnes_100 n v0 v1 (v2 + (1)) h1 else none)
set_option maxHeartbeats 4000000 in
set_option maxRecDepth 100000 in
theorem w_X7_laysOnes_100 {g : GT} {l : Launch} {r : Hp} : ∀ (n : Nat) (v0 : Nat) (v1 : Int32) (v2 : Int32) (h : Hp), f_X7_laysOnes_100 n v0 v1 v2 h = some r → PW g l m_X7_laysOnes 2 0 0 100 [some (.ref v0), some (.int v1), some (.int v2)] [] h (fun r9 h9 => r9 = none ∧ h9 = r) := by
  intro n
  induction n with
  | zero => intro v0 v1 v2 h hf; cases hf
  | succ n ih =>
    intro v0 v1 v2 h hf
    rw [f_X7_laysOnes_100] at hf
    refine pw_iload_n dX7_laysOnes_100 rfl ?_
    refine pw_iload_n dX7_laysOnes_101 rfl ?_
    refine pw_iconst (v := (2)) dX7_laysOnes_102 (by decide) ?_
    refine pw_isub dX7_laysOnes_103 ?_
    refine q_icmp_gt (tgt := 129) hf dX7_laysOnes_104 (by decide) (fun hf _ => ?_) (fun hf _ => ?_)
    · exact pw_vret rfl dX7_laysOnes_129 ⟨rfl, Option.some.inj hf⟩
    · refine pw_aload_n dX7_laysOnes_107 rfl ?_
      refine pw_iload_n dX7_laysOnes_108 rfl ?_
      refine pw_iconst (v := (2)) dX7_laysOnes_109 (by decide) ?_
      refine pw_iadd dX7_laysOnes_110 ?_
      refine pw_iload_n dX7_laysOnes_111 rfl ?_
      refine pw_iadd dX7_laysOnes_112 ?_
      refine pw_iconst (v := (3)) dX7_laysOnes_113 (by decide) ?_
      refine pw_iload_n dX7_laysOnes_114 rfl ?_
      refine pw_imul dX7_laysOnes_115 ?_
      refine pw_iconst (v := (1)) dX7_laysOnes_116 (by decide) ?_
      refine pw_iadd dX7_laysOnes_117 ?_
      refine pw_iload_n dX7_laysOnes_118 rfl ?_
      refine pw_isub dX7_laysOnes_119 ?_
      refine q_callV_v (kc2 := 0) (ks2 := 0) (as := [.int ((v1 + (2 : Int32)) + v2), .int ((((3 : Int32) * v1) + (1 : Int32)) - v2)]) (rest := []) hf (fun x9 e9 => t_X7_two e9) gX7_laysOnes_X7_two rfl hd9_X7_two rfl rfl ⟨(by decide), by decide⟩ ⟨rfl, rfl⟩ (Nat.le_of_ble_eq_true rfl) dX7_laysOnes_120 rfl (fun h1 hf => ?_)
      refine pw_iinc (v := v2 + (1)) dX7_laysOnes_123 rfl rfl (by decide) rfl ?_
      dsimp only [lset, lset2, clr]
      refine pw_goto (tgt := 100) dX7_laysOnes_126 (by decide) ?_
      exact pw_lo (lle_s rfl (lle_s rfl (lle_s rfl lle_0))) (ih _ _ _ _ hf)
def f_X7_laysOnes_36 : Nat → Nat → Int32 → Int32 → Hp → Option Hp
  | 0, _, _, _, _ => none
  | n + 1, v0, v1, v2, h => if v1 < v2 then (if oK h v0 7 = true then (f_X7_two h v0 (((2 : Int32) * v1) + (1 : Int32)) (((6 : Int32) * v1) + (2 : Int32))).bind fun h1 => if oK h1 v0 7 = true then (f_X7_two h1 v0 (((2 : Int32) * v1) + (2 : Int32)) (((4 : Int32) * v1) + (1 : Int32))).bind fun h2 => if oK h2 v0 7 = true then (f_X7_two h2 v0 (v1 + (1 : Int32)) (v1 + (2 : Int32))).bind fun h3 => f_X7_laysOnes_100 4096 v0 v1 (1 : Int32) h3 else none else none else none) else (if oK h v0 7 = true then (f_X7_two h v0 v2 ((((4 : Int32) * v1) + (1 : Int32)) - v2)).bind fun h4 => f_X7_laysOnes_36 n v0 v1 (v2 + (1)) h4 else none)
set_option maxHeartbeats 4000000 in
set_option maxRecDepth 100000 in
theorem w_X7_laysOnes_36 {g : GT} {l : Launch} {r : Hp} : ∀ (n : Nat) (v0 : Nat) (v1 : Int32) (v2 : Int32) (h : Hp), f_X7_laysOnes_36 n v0 v1 v2 h = some r → PW g l m_X7_laysOnes 2 0 0 36 [some (.ref v0), some (.int v1), some (.int v2)] [] h (fun r9 h9 => r9 = none ∧ h9 = r) := by
  intro n
  induction n with
  | zero => intro v0 v1 v2 h hf; cases hf
  | succ n ih =>
    intro v0 v1 v2 h hf
    rw [f_X7_laysOnes_36] at hf
    refine pw_iload_n dX7_laysOnes_36 rfl ?_
    refine pw_iload_n dX7_laysOnes_37 rfl ?_
    refine q_icmp_gt (tgt := 59) hf dX7_laysOnes_38 (by decide) (fun hf _ => ?_) (fun hf _ => ?_)
    · refine pw_aload_n dX7_laysOnes_59 rfl ?_
      refine pw_iconst (v := (2)) dX7_laysOnes_60 (by decide) ?_
      refine pw_iload_n dX7_laysOnes_61 rfl ?_
      refine pw_imul dX7_laysOnes_62 ?_
      refine pw_iconst (v := (1)) dX7_laysOnes_63 (by decide) ?_
      refine pw_iadd dX7_laysOnes_64 ?_
      refine pw_bipush (v := (6)) dX7_laysOnes_65 (by decide) ?_
      refine pw_iload_n dX7_laysOnes_67 rfl ?_
      refine pw_imul dX7_laysOnes_68 ?_
      refine pw_iconst (v := (2)) dX7_laysOnes_69 (by decide) ?_
      refine pw_iadd dX7_laysOnes_70 ?_
      refine q_callV_v (kc2 := 0) (ks2 := 0) (as := [.int (((2 : Int32) * v1) + (1 : Int32)), .int (((6 : Int32) * v1) + (2 : Int32))]) (rest := []) hf (fun x9 e9 => t_X7_two e9) gX7_laysOnes_X7_two rfl hd9_X7_two rfl rfl ⟨(by decide), by decide⟩ ⟨rfl, rfl⟩ (Nat.le_of_ble_eq_true rfl) dX7_laysOnes_71 rfl (fun h1 hf => ?_)
      refine pw_aload_n dX7_laysOnes_74 rfl ?_
      refine pw_iconst (v := (2)) dX7_laysOnes_75 (by decide) ?_
      refine pw_iload_n dX7_laysOnes_76 rfl ?_
      refine pw_imul dX7_laysOnes_77 ?_
      refine pw_iconst (v := (2)) dX7_laysOnes_78 (by decide) ?_
      refine pw_iadd dX7_laysOnes_79 ?_
      refine pw_iconst (v := (4)) dX7_laysOnes_80 (by decide) ?_
      refine pw_iload_n dX7_laysOnes_81 rfl ?_
      refine pw_imul dX7_laysOnes_82 ?_
      refine pw_iconst (v := (1)) dX7_laysOnes_83 (by decide) ?_
      refine pw_iadd dX7_laysOnes_84 ?_
      refine q_callV_v (kc2 := 0) (ks2 := 0) (as := [.int (((2 : Int32) * v1) + (2 : Int32)), .int (((4 : Int32) * v1) + (1 : Int32))]) (rest := []) hf (fun x9 e9 => t_X7_two e9) gX7_laysOnes_X7_two rfl hd9_X7_two rfl rfl ⟨(by decide), by decide⟩ ⟨rfl, rfl⟩ (Nat.le_of_ble_eq_true rfl) dX7_laysOnes_85 rfl (fun h2 hf => ?_)
      refine pw_aload_n dX7_laysOnes_88 rfl ?_
      refine pw_iload_n dX7_laysOnes_89 rfl ?_
      refine pw_iconst (v := (1)) dX7_laysOnes_90 (by decide) ?_
      refine pw_iadd dX7_laysOnes_91 ?_
      refine pw_iload_n dX7_laysOnes_92 rfl ?_
      refine pw_iconst (v := (2)) dX7_laysOnes_93 (by decide) ?_
      refine pw_iadd dX7_laysOnes_94 ?_
      refine q_callV_v (kc2 := 0) (ks2 := 0) (as := [.int (v1 + (1 : Int32)), .int (v1 + (2 : Int32))]) (rest := []) hf (fun x9 e9 => t_X7_two e9) gX7_laysOnes_X7_two rfl hd9_X7_two rfl rfl ⟨(by decide), by decide⟩ ⟨rfl, rfl⟩ (Nat.le_of_ble_eq_true rfl) dX7_laysOnes_95 rfl (fun h3 hf => ?_)
      refine pw_iconst (v := (1)) dX7_laysOnes_98 (by decide) ?_
      refine pw_istore_n dX7_laysOnes_99 (by decide) rfl ?_
      dsimp only [lset, lset2, clr]
      exact pw_lo (lle_s rfl (lle_s rfl (lle_s rfl lle_0))) (w_X7_laysOnes_100 4096 _ _ _ _ hf)
    · refine pw_aload_n dX7_laysOnes_41 rfl ?_
      refine pw_iload_n dX7_laysOnes_42 rfl ?_
      refine pw_iconst (v := (4)) dX7_laysOnes_43 (by decide) ?_
      refine pw_iload_n dX7_laysOnes_44 rfl ?_
      refine pw_imul dX7_laysOnes_45 ?_
      refine pw_iconst (v := (1)) dX7_laysOnes_46 (by decide) ?_
      refine pw_iadd dX7_laysOnes_47 ?_
      refine pw_iload_n dX7_laysOnes_48 rfl ?_
      refine pw_isub dX7_laysOnes_49 ?_
      refine q_callV_v (kc2 := 0) (ks2 := 0) (as := [.int v2, .int ((((4 : Int32) * v1) + (1 : Int32)) - v2)]) (rest := []) hf (fun x9 e9 => t_X7_two e9) gX7_laysOnes_X7_two rfl hd9_X7_two rfl rfl ⟨(by decide), by decide⟩ ⟨rfl, rfl⟩ (Nat.le_of_ble_eq_true rfl) dX7_laysOnes_50 rfl (fun h4 hf => ?_)
      refine pw_iinc (v := v2 + (1)) dX7_laysOnes_53 rfl rfl (by decide) rfl ?_
      dsimp only [lset, lset2, clr]
      refine pw_goto (tgt := 36) dX7_laysOnes_56 (by decide) ?_
      exact pw_lo (lle_s rfl (lle_s rfl (lle_s rfl lle_0))) (ih _ _ _ _ hf)
def f_X7_laysOnes_2 : Nat → Nat → Int32 → Int32 → Hp → Option Hp
  | 0, _, _, _, _ => none
  | n + 1, v0, v1, v2, h => if ((2 : Int32) * v1) ≤ v2 then (f_X7_laysOnes_36 4096 v0 v1 (1 : Int32) h) else (if oK h v0 7 = true then (f_X7_two h v0 ((((4 : Int32) * v1) + (2 : Int32)) + v2) ((((8 : Int32) * v1) + (2 : Int32)) - v2)).bind fun h1 => f_X7_laysOnes_2 n v0 v1 (v2 + (1)) h1 else none)
set_option maxHeartbeats 4000000 in
set_option maxRecDepth 100000 in
theorem w_X7_laysOnes_2 {g : GT} {l : Launch} {r : Hp} : ∀ (n : Nat) (v0 : Nat) (v1 : Int32) (v2 : Int32) (h : Hp), f_X7_laysOnes_2 n v0 v1 v2 h = some r → PW g l m_X7_laysOnes 2 0 0 2 [some (.ref v0), some (.int v1), some (.int v2)] [] h (fun r9 h9 => r9 = none ∧ h9 = r) := by
  intro n
  induction n with
  | zero => intro v0 v1 v2 h hf; cases hf
  | succ n ih =>
    intro v0 v1 v2 h hf
    rw [f_X7_laysOnes_2] at hf
    refine pw_iload_n dX7_laysOnes_2 rfl ?_
    refine pw_iconst (v := (2)) dX7_laysOnes_3 (by decide) ?_
    refine pw_iload_n dX7_laysOnes_4 rfl ?_
    refine pw_imul dX7_laysOnes_5 ?_
    refine q_icmp_ge (tgt := 34) hf dX7_laysOnes_6 (by decide) (fun hf _ => ?_) (fun hf _ => ?_)
    · refine pw_iconst (v := (1)) dX7_laysOnes_34 (by decide) ?_
      refine pw_istore_n dX7_laysOnes_35 (by decide) rfl ?_
      dsimp only [lset, lset2, clr]
      exact pw_lo (lle_s rfl (lle_s rfl (lle_s rfl lle_0))) (w_X7_laysOnes_36 4096 _ _ _ _ hf)
    · refine pw_aload_n dX7_laysOnes_9 rfl ?_
      refine pw_iconst (v := (4)) dX7_laysOnes_10 (by decide) ?_
      refine pw_iload_n dX7_laysOnes_11 rfl ?_
      refine pw_imul dX7_laysOnes_12 ?_
      refine pw_iconst (v := (2)) dX7_laysOnes_13 (by decide) ?_
      refine pw_iadd dX7_laysOnes_14 ?_
      refine pw_iload_n dX7_laysOnes_15 rfl ?_
      refine pw_iadd dX7_laysOnes_16 ?_
      refine pw_bipush (v := (8)) dX7_laysOnes_17 (by decide) ?_
      refine pw_iload_n dX7_laysOnes_19 rfl ?_
      refine pw_imul dX7_laysOnes_20 ?_
      refine pw_iconst (v := (2)) dX7_laysOnes_21 (by decide) ?_
      refine pw_iadd dX7_laysOnes_22 ?_
      refine pw_iload_n dX7_laysOnes_23 rfl ?_
      refine pw_isub dX7_laysOnes_24 ?_
      refine q_callV_v (kc2 := 0) (ks2 := 0) (as := [.int ((((4 : Int32) * v1) + (2 : Int32)) + v2), .int ((((8 : Int32) * v1) + (2 : Int32)) - v2)]) (rest := []) hf (fun x9 e9 => t_X7_two e9) gX7_laysOnes_X7_two rfl hd9_X7_two rfl rfl ⟨(by decide), by decide⟩ ⟨rfl, rfl⟩ (Nat.le_of_ble_eq_true rfl) dX7_laysOnes_25 rfl (fun h1 hf => ?_)
      refine pw_iinc (v := v2 + (1)) dX7_laysOnes_28 rfl rfl (by decide) rfl ?_
      dsimp only [lset, lset2, clr]
      refine pw_goto (tgt := 2) dX7_laysOnes_31 (by decide) ?_
      exact pw_lo (lle_s rfl (lle_s rfl (lle_s rfl lle_0))) (ih _ _ _ _ hf)
def f_X7_laysOnes (h : Hp) (a0 : Nat) (a1 : Int32) : Option Hp := f_X7_laysOnes_2 4096 a0 a1 (0 : Int32) h
set_option maxHeartbeats 4000000 in
set_option maxRecDepth 100000 in
theorem t_X7_laysOnes {g : GT} {l : Launch} {h : Hp} {a0 : Nat} {a1 : Int32} {r : Hp} (hf : f_X7_laysOnes h a0 a1 = some r) : PM g l 2 0 0 yX7_laysOnes wsX7_laysOnes [.ref a0, .int a1] h (fun r9 h9 => r9 = none ∧ h9 = r) := by
  refine pm_of (M := m_X7_laysOnes) (by decide) rfl rfl rfl (Nat.le_of_ble_eq_true rfl) (lo := [some (.ref a0), some (.int a1), none]) rfl ?_
  rw [f_X7_laysOnes] at hf
  refine pw_iconst (v := (0)) dX7_laysOnes_0 (by decide) ?_
  refine pw_istore_n dX7_laysOnes_1 (by decide) rfl ?_
  dsimp only [lset, lset2, clr]
  exact pw_lo (lle_s rfl (lle_s rfl (lle_s rfl lle_0))) (w_X7_laysOnes_2 4096 _ _ _ _ hf)
/-! X7_laysTwos -/
abbrev m_X7_laysTwos : MD := (cX7_laysTwos, RX7, "laysTwos", wsX7_laysTwos, 3, none)
theorem hd9_X7_laysTwos : yX7_laysTwos.cls = RX7 ∧ yX7_laysTwos.cls ≠ "java/lang/invoke/MethodHandle" ∧ yX7_laysTwos.cls ≠ "java/lang/invoke/VarHandle" ∧ (parseMethodDescriptor yX7_laysTwos.desc).map (fun d => d.parameters.length) = some 1 := by decide +kernel
def f_X7_laysTwos_74 : Nat → Nat → Int32 → Int32 → Hp → Option Hp
  | 0, _, _, _, _ => none
  | n + 1, v0, v1, v2, h => if v1 ≤ v2 then (if oK h v0 7 = true then (f_X7_two h v0 (((7 : Int32) * v1) + (3 : Int32)) (((7 : Int32) * v1) + (4 : Int32))).bind fun h1 => some h1 else none) else (if oK h v0 7 = true then (f_X7_two h v0 ((((4 : Int32) * v1) + (3 : Int32)) + v2) ((((8 : Int32) * v1) + (4 : Int32)) - v2)).bind fun h2 => if oK h2 v0 7 = true then (f_X7_two h2 v0 ((((5 : Int32) * v1) + (2 : Int32)) + v2) ((((7 : Int32) * v1) + (3 : Int32)) - v2)).bind fun h3 => f_X7_laysTwos_74 n v0 v1 (v2 + (1)) h3 else none else none)
set_option maxHeartbeats 4000000 in
set_option maxRecDepth 100000 in
theorem w_X7_laysTwos_74 {g : GT} {l : Launch} {r : Hp} : ∀ (n : Nat) (v0 : Nat) (v1 : Int32) (v2 : Int32) (h : Hp), f_X7_laysTwos_74 n v0 v1 v2 h = some r → PW g l m_X7_laysTwos 2 0 0 74 [some (.ref v0), some (.int v1), some (.int v2)] [] h (fun r9 h9 => r9 = none ∧ h9 = r) := by
  intro n
  induction n with
  | zero => intro v0 v1 v2 h hf; cases hf
  | succ n ih =>
    intro v0 v1 v2 h hf
    rw [f_X7_laysTwos_74] at hf
    refine pw_iload_n dX7_laysTwos_74 rfl ?_
    refine pw_iload_n dX7_laysTwos_75 rfl ?_
    refine q_icmp_ge (tgt := 123) hf dX7_laysTwos_76 (by decide) (fun hf _ => ?_) (fun hf _ => ?_)
    · refine pw_aload_n dX7_laysTwos_123 rfl ?_
      refine pw_bipush (v := (7)) dX7_laysTwos_124 (by decide) ?_
      refine pw_iload_n dX7_laysTwos_126 rfl ?_
      refine pw_imul dX7_laysTwos_127 ?_
      refine pw_iconst (v := (3)) dX7_laysTwos_128 (by decide) ?_
      refine pw_iadd dX7_laysTwos_129 ?_
      refine pw_bipush (v := (7)) dX7_laysTwos_130 (by decide) ?_
      refine pw_iload_n dX7_laysTwos_132 rfl ?_
      refine pw_imul dX7_laysTwos_133 ?_
      refine pw_iconst (v := (4)) dX7_laysTwos_134 (by decide) ?_
      refine pw_iadd dX7_laysTwos_135 ?_
      refine q_callV_v (kc2 := 0) (ks2 := 0) (as := [.int (((7 : Int32) * v1) + (3 : Int32)), .int (((7 : Int32) * v1) + (4 : Int32))]) (rest := []) hf (fun x9 e9 => t_X7_two e9) gX7_laysTwos_X7_two rfl hd9_X7_two rfl rfl ⟨(by decide), by decide⟩ ⟨rfl, rfl⟩ (Nat.le_of_ble_eq_true rfl) dX7_laysTwos_136 rfl (fun h1 hf => ?_)
      exact pw_vret rfl dX7_laysTwos_139 ⟨rfl, Option.some.inj hf⟩
    · refine pw_aload_n dX7_laysTwos_79 rfl ?_
      refine pw_iconst (v := (4)) dX7_laysTwos_80 (by decide) ?_
      refine pw_iload_n dX7_laysTwos_81 rfl ?_
      refine pw_imul dX7_laysTwos_82 ?_
      refine pw_iconst (v := (3)) dX7_laysTwos_83 (by decide) ?_
      refine pw_iadd dX7_laysTwos_84 ?_
      refine pw_iload_n dX7_laysTwos_85 rfl ?_
      refine pw_iadd dX7_laysTwos_86 ?_
      refine pw_bipush (v := (8)) dX7_laysTwos_87 (by decide) ?_
      refine pw_iload_n dX7_laysTwos_89 rfl ?_
      refine pw_imul dX7_laysTwos_90 ?_
      refine pw_iconst (v := (4)) dX7_laysTwos_91 (by decide) ?_
      refine pw_iadd dX7_laysTwos_92 ?_
      refine pw_iload_n dX7_laysTwos_93 rfl ?_
      refine pw_isub dX7_laysTwos_94 ?_
      refine q_callV_v (kc2 := 0) (ks2 := 0) (as := [.int ((((4 : Int32) * v1) + (3 : Int32)) + v2), .int ((((8 : Int32) * v1) + (4 : Int32)) - v2)]) (rest := []) hf (fun x9 e9 => t_X7_two e9) gX7_laysTwos_X7_two rfl hd9_X7_two rfl rfl ⟨(by decide), by decide⟩ ⟨rfl, rfl⟩ (Nat.le_of_ble_eq_true rfl) dX7_laysTwos_95 rfl (fun h2 hf => ?_)
      refine pw_aload_n dX7_laysTwos_98 rfl ?_
      refine pw_iconst (v := (5)) dX7_laysTwos_99 (by decide) ?_
      refine pw_iload_n dX7_laysTwos_100 rfl ?_
      refine pw_imul dX7_laysTwos_101 ?_
      refine pw_iconst (v := (2)) dX7_laysTwos_102 (by decide) ?_
      refine pw_iadd dX7_laysTwos_103 ?_
      refine pw_iload_n dX7_laysTwos_104 rfl ?_
      refine pw_iadd dX7_laysTwos_105 ?_
      refine pw_bipush (v := (7)) dX7_laysTwos_106 (by decide) ?_
      refine pw_iload_n dX7_laysTwos_108 rfl ?_
      refine pw_imul dX7_laysTwos_109 ?_
      refine pw_iconst (v := (3)) dX7_laysTwos_110 (by decide) ?_
      refine pw_iadd dX7_laysTwos_111 ?_
      refine pw_iload_n dX7_laysTwos_112 rfl ?_
      refine pw_isub dX7_laysTwos_113 ?_
      refine q_callV_v (kc2 := 0) (ks2 := 0) (as := [.int ((((5 : Int32) * v1) + (2 : Int32)) + v2), .int ((((7 : Int32) * v1) + (3 : Int32)) - v2)]) (rest := []) hf (fun x9 e9 => t_X7_two e9) gX7_laysTwos_X7_two rfl hd9_X7_two rfl rfl ⟨(by decide), by decide⟩ ⟨rfl, rfl⟩ (Nat.le_of_ble_eq_true rfl) dX7_laysTwos_114 rfl (fun h3 hf => ?_)
      refine pw_iinc (v := v2 + (1)) dX7_laysTwos_117 rfl rfl (by decide) rfl ?_
      dsimp only [lset, lset2, clr]
      refine pw_goto (tgt := 74) dX7_laysTwos_120 (by decide) ?_
      exact pw_lo (lle_s rfl (lle_s rfl (lle_s rfl lle_0))) (ih _ _ _ _ hf)
def f_X7_laysTwos_2 : Nat → Nat → Int32 → Int32 → Hp → Option Hp
  | 0, _, _, _, _ => none
  | n + 1, v0, v1, v2, h => if ((2 : Int32) * v1) < v2 then (if oK h v0 7 = true then (f_X7_two h v0 (((2 : Int32) * v1) + (1 : Int32)) (((6 : Int32) * v1) + (2 : Int32))).bind fun h1 => if oK h1 v0 7 = true then (f_X7_two h1 v0 (((4 : Int32) * v1) + (2 : Int32)) (((6 : Int32) * v1) + (3 : Int32))).bind fun h2 => if oK h2 v0 7 = true then (f_X7_two h2 v0 (((4 : Int32) * v1) + (3 : Int32)) (((8 : Int32) * v1) + (5 : Int32))).bind fun h3 => f_X7_laysTwos_74 4096 v0 v1 (1 : Int32) h3 else none else none else none) else (if oK h v0 7 = true then (f_X7_two h v0 v2 ((((4 : Int32) * v1) + (2 : Int32)) - v2)).bind fun h4 => f_X7_laysTwos_2 n v0 v1 (v2 + (1)) h4 else none)
set_option maxHeartbeats 4000000 in
set_option maxRecDepth 100000 in
theorem w_X7_laysTwos_2 {g : GT} {l : Launch} {r : Hp} : ∀ (n : Nat) (v0 : Nat) (v1 : Int32) (v2 : Int32) (h : Hp), f_X7_laysTwos_2 n v0 v1 v2 h = some r → PW g l m_X7_laysTwos 2 0 0 2 [some (.ref v0), some (.int v1), some (.int v2)] [] h (fun r9 h9 => r9 = none ∧ h9 = r) := by
  intro n
  induction n with
  | zero => intro v0 v1 v2 h hf; cases hf
  | succ n ih =>
    intro v0 v1 v2 h hf
    rw [f_X7_laysTwos_2] at hf
    refine pw_iload_n dX7_laysTwos_2 rfl ?_
    refine pw_iconst (v := (2)) dX7_laysTwos_3 (by decide) ?_
    refine pw_iload_n dX7_laysTwos_4 rfl ?_
    refine pw_imul dX7_laysTwos_5 ?_
    refine q_icmp_gt (tgt := 27) hf dX7_laysTwos_6 (by decide) (fun hf _ => ?_) (fun hf _ => ?_)
    · refine pw_aload_n dX7_laysTwos_27 rfl ?_
      refine pw_iconst (v := (2)) dX7_laysTwos_28 (by decide) ?_
      refine pw_iload_n dX7_laysTwos_29 rfl ?_
      refine pw_imul dX7_laysTwos_30 ?_
      refine pw_iconst (v := (1)) dX7_laysTwos_31 (by decide) ?_
      refine pw_iadd dX7_laysTwos_32 ?_
      refine pw_bipush (v := (6)) dX7_laysTwos_33 (by decide) ?_
      refine pw_iload_n dX7_laysTwos_35 rfl ?_
      refine pw_imul dX7_laysTwos_36 ?_
      refine pw_iconst (v := (2)) dX7_laysTwos_37 (by decide) ?_
      refine pw_iadd dX7_laysTwos_38 ?_
      refine q_callV_v (kc2 := 0) (ks2 := 0) (as := [.int (((2 : Int32) * v1) + (1 : Int32)), .int (((6 : Int32) * v1) + (2 : Int32))]) (rest := []) hf (fun x9 e9 => t_X7_two e9) gX7_laysTwos_X7_two rfl hd9_X7_two rfl rfl ⟨(by decide), by decide⟩ ⟨rfl, rfl⟩ (Nat.le_of_ble_eq_true rfl) dX7_laysTwos_39 rfl (fun h1 hf => ?_)
      refine pw_aload_n dX7_laysTwos_42 rfl ?_
      refine pw_iconst (v := (4)) dX7_laysTwos_43 (by decide) ?_
      refine pw_iload_n dX7_laysTwos_44 rfl ?_
      refine pw_imul dX7_laysTwos_45 ?_
      refine pw_iconst (v := (2)) dX7_laysTwos_46 (by decide) ?_
      refine pw_iadd dX7_laysTwos_47 ?_
      refine pw_bipush (v := (6)) dX7_laysTwos_48 (by decide) ?_
      refine pw_iload_n dX7_laysTwos_50 rfl ?_
      refine pw_imul dX7_laysTwos_51 ?_
      refine pw_iconst (v := (3)) dX7_laysTwos_52 (by decide) ?_
      refine pw_iadd dX7_laysTwos_53 ?_
      refine q_callV_v (kc2 := 0) (ks2 := 0) (as := [.int (((4 : Int32) * v1) + (2 : Int32)), .int (((6 : Int32) * v1) + (3 : Int32))]) (rest := []) hf (fun x9 e9 => t_X7_two e9) gX7_laysTwos_X7_two rfl hd9_X7_two rfl rfl ⟨(by decide), by decide⟩ ⟨rfl, rfl⟩ (Nat.le_of_ble_eq_true rfl) dX7_laysTwos_54 rfl (fun h2 hf => ?_)
      refine pw_aload_n dX7_laysTwos_57 rfl ?_
      refine pw_iconst (v := (4)) dX7_laysTwos_58 (by decide) ?_
      refine pw_iload_n dX7_laysTwos_59 rfl ?_
      refine pw_imul dX7_laysTwos_60 ?_
      refine pw_iconst (v := (3)) dX7_laysTwos_61 (by decide) ?_
      refine pw_iadd dX7_laysTwos_62 ?_
      refine pw_bipush (v := (8)) dX7_laysTwos_63 (by decide) ?_
      refine pw_iload_n dX7_laysTwos_65 rfl ?_
      refine pw_imul dX7_laysTwos_66 ?_
      refine pw_iconst (v := (5)) dX7_laysTwos_67 (by decide) ?_
      refine pw_iadd dX7_laysTwos_68 ?_
      refine q_callV_v (kc2 := 0) (ks2 := 0) (as := [.int (((4 : Int32) * v1) + (3 : Int32)), .int (((8 : Int32) * v1) + (5 : Int32))]) (rest := []) hf (fun x9 e9 => t_X7_two e9) gX7_laysTwos_X7_two rfl hd9_X7_two rfl rfl ⟨(by decide), by decide⟩ ⟨rfl, rfl⟩ (Nat.le_of_ble_eq_true rfl) dX7_laysTwos_69 rfl (fun h3 hf => ?_)
      refine pw_iconst (v := (1)) dX7_laysTwos_72 (by decide) ?_
      refine pw_istore_n dX7_laysTwos_73 (by decide) rfl ?_
      dsimp only [lset, lset2, clr]
      exact pw_lo (lle_s rfl (lle_s rfl (lle_s rfl lle_0))) (w_X7_laysTwos_74 4096 _ _ _ _ hf)
    · refine pw_aload_n dX7_laysTwos_9 rfl ?_
      refine pw_iload_n dX7_laysTwos_10 rfl ?_
      refine pw_iconst (v := (4)) dX7_laysTwos_11 (by decide) ?_
      refine pw_iload_n dX7_laysTwos_12 rfl ?_
      refine pw_imul dX7_laysTwos_13 ?_
      refine pw_iconst (v := (2)) dX7_laysTwos_14 (by decide) ?_
      refine pw_iadd dX7_laysTwos_15 ?_
      refine pw_iload_n dX7_laysTwos_16 rfl ?_
      refine pw_isub dX7_laysTwos_17 ?_
      refine q_callV_v (kc2 := 0) (ks2 := 0) (as := [.int v2, .int ((((4 : Int32) * v1) + (2 : Int32)) - v2)]) (rest := []) hf (fun x9 e9 => t_X7_two e9) gX7_laysTwos_X7_two rfl hd9_X7_two rfl rfl ⟨(by decide), by decide⟩ ⟨rfl, rfl⟩ (Nat.le_of_ble_eq_true rfl) dX7_laysTwos_18 rfl (fun h4 hf => ?_)
      refine pw_iinc (v := v2 + (1)) dX7_laysTwos_21 rfl rfl (by decide) rfl ?_
      dsimp only [lset, lset2, clr]
      refine pw_goto (tgt := 2) dX7_laysTwos_24 (by decide) ?_
      exact pw_lo (lle_s rfl (lle_s rfl (lle_s rfl lle_0))) (ih _ _ _ _ hf)
def f_X7_laysTwos (h : Hp) (a0 : Nat) (a1 : Int32) : Option Hp := f_X7_laysTwos_2 4096 a0 a1 (1 : Int32) h
set_option maxHeartbeats 4000000 in
set_option maxRecDepth 100000 in
theorem t_X7_laysTwos {g : GT} {l : Launch} {h : Hp} {a0 : Nat} {a1 : Int32} {r : Hp} (hf : f_X7_laysTwos h a0 a1 = some r) : PM g l 2 0 0 yX7_laysTwos wsX7_laysTwos [.ref a0, .int a1] h (fun r9 h9 => r9 = none ∧ h9 = r) := by
  refine pm_of (M := m_X7_laysTwos) (by decide) rfl rfl rfl (Nat.le_of_ble_eq_true rfl) (lo := [some (.ref a0), some (.int a1), none]) rfl ?_
  rw [f_X7_laysTwos] at hf
  refine pw_iconst (v := (1)) dX7_laysTwos_0 (by decide) ?_
  refine pw_istore_n dX7_laysTwos_1 (by decide) rfl ?_
  dsimp only [lset, lset2, clr]
  exact pw_lo (lle_s rfl (lle_s rfl (lle_s rfl lle_0))) (w_X7_laysTwos_2 4096 _ _ _ _ hf)
/-! X7_made -/
abbrev m_X7_made : MD := (cX7_made, RX7, "made", wsX7_made, 3, (some .int))
theorem w9_X7_made_X7 : ∀ w ∈ u_ws RX7 TX7 31, w ∈ wsX7_made := by decide +kernel
theorem hd9_X7_made : yX7_made.cls = RX7 ∧ yX7_made.cls ≠ "java/lang/invoke/MethodHandle" ∧ yX7_made.cls ≠ "java/lang/invoke/VarHandle" ∧ (parseMethodDescriptor yX7_made.desc).map (fun d => d.parameters.length) = some 1 := by decide +kernel
def f_X7_made_33 : Nat → Nat → Int32 → Int32 → Hp → Option (Int32 × Hp)
  | 0, _, _, _, _ => none
  | n + 1, v0, v1, v2, h => if (121 : Int32) ≤ v2 then (if (v1 - v1 / (4 : Int32) * (4 : Int32)) = 0 then (if oK h v0 7 = true then (f_X7_laysFours h v0 (v1 / (4 : Int32))).bind fun h24 => if (v1 - v1 / (4 : Int32) * (4 : Int32)) = (1 : Int32) then (if oK h24 v0 7 = true then (f_X7_laysOnes h24 v0 (v1 / (4 : Int32))).bind fun h36 => if (v1 - v1 / (4 : Int32) * (4 : Int32)) = (2 : Int32) then (if oK h36 v0 7 = true then (f_X7_laysTwos h36 v0 (v1 / (4 : Int32))).bind fun h42 => (gR h42 v0 7 29).bind fun x43 => if (v1 - v1 / (4 : Int32) * (4 : Int32)) = (2 : Int32) then (if oK h42 v0 7 = true then (f_X7_looks h42 v0 x43 (((2 : Int32) * v1) + (1 : Int32))).bind fun h46 => (gI h46 v0 7 28).bind fun x47 => some ((x47, h46)) else none) else (if oK h42 v0 7 = true then (f_X7_looks h42 v0 x43 ((2 : Int32) * v1)).bind fun h44 => (gI h44 v0 7 28).bind fun x45 => some ((x45, h44)) else none) else none) else ((gR h36 v0 7 29).bind fun x37 => if (v1 - v1 / (4 : Int32) * (4 : Int32)) = (2 : Int32) then (if oK h36 v0 7 = true then (f_X7_looks h36 v0 x37 (((2 : Int32) * v1) + (1 : Int32))).bind fun h40 => (gI h40 v0 7 28).bind fun x41 => some ((x41, h40)) else none) else (if oK h36 v0 7 = true then (f_X7_looks h36 v0 x37 ((2 : Int32) * v1)).bind fun h38 => (gI h38 v0 7 28).bind fun x39 => some ((x39, h38)) else none)) else none) else (if (v1 - v1 / (4 : Int32) * (4 : Int32)) = (2 : Int32) then (if oK h24 v0 7 = true then (f_X7_laysTwos h24 v0 (v1 / (4 : Int32))).bind fun h30 => (gR h30 v0 7 29).bind fun x31 => if (v1 - v1 / (4 : Int32) * (4 : Int32)) = (2 : Int32) then (if oK h30 v0 7 = true then (f_X7_looks h30 v0 x31 (((2 : Int32) * v1) + (1 : Int32))).bind fun h34 => (gI h34 v0 7 28).bind fun x35 => some ((x35, h34)) else none) else (if oK h30 v0 7 = true then (f_X7_looks h30 v0 x31 ((2 : Int32) * v1)).bind fun h32 => (gI h32 v0 7 28).bind fun x33 => some ((x33, h32)) else none) else none) else ((gR h24 v0 7 29).bind fun x25 => if (v1 - v1 / (4 : Int32) * (4 : Int32)) = (2 : Int32) then (if oK h24 v0 7 = true then (f_X7_looks h24 v0 x25 (((2 : Int32) * v1) + (1 : Int32))).bind fun h28 => (gI h28 v0 7 28).bind fun x29 => some ((x29, h28)) else none) else (if oK h24 v0 7 = true then (f_X7_looks h24 v0 x25 ((2 : Int32) * v1)).bind fun h26 => (gI h26 v0 7 28).bind fun x27 => some ((x27, h26)) else none))) else none) else (if (v1 - v1 / (4 : Int32) * (4 : Int32)) = (1 : Int32) then (if oK h v0 7 = true then (f_X7_laysOnes h v0 (v1 / (4 : Int32))).bind fun h12 => if (v1 - v1 / (4 : Int32) * (4 : Int32)) = (2 : Int32) then (if oK h12 v0 7 = true then (f_X7_laysTwos h12 v0 (v1 / (4 : Int32))).bind fun h18 => (gR h18 v0 7 29).bind fun x19 => if (v1 - v1 / (4 : Int32) * (4 : Int32)) = (2 : Int32) then (if oK h18 v0 7 = true then (f_X7_looks h18 v0 x19 (((2 : Int32) * v1) + (1 : Int32))).bind fun h22 => (gI h22 v0 7 28).bind fun x23 => some ((x23, h22)) else none) else (if oK h18 v0 7 = true then (f_X7_looks h18 v0 x19 ((2 : Int32) * v1)).bind fun h20 => (gI h20 v0 7 28).bind fun x21 => some ((x21, h20)) else none) else none) else ((gR h12 v0 7 29).bind fun x13 => if (v1 - v1 / (4 : Int32) * (4 : Int32)) = (2 : Int32) then (if oK h12 v0 7 = true then (f_X7_looks h12 v0 x13 (((2 : Int32) * v1) + (1 : Int32))).bind fun h16 => (gI h16 v0 7 28).bind fun x17 => some ((x17, h16)) else none) else (if oK h12 v0 7 = true then (f_X7_looks h12 v0 x13 ((2 : Int32) * v1)).bind fun h14 => (gI h14 v0 7 28).bind fun x15 => some ((x15, h14)) else none)) else none) else (if (v1 - v1 / (4 : Int32) * (4 : Int32)) = (2 : Int32) then (if oK h v0 7 = true then (f_X7_laysTwos h v0 (v1 / (4 : Int32))).bind fun h6 => (gR h6 v0 7 29).bind fun x7 => if (v1 - v1 / (4 : Int32) * (4 : Int32)) = (2 : Int32) then (if oK h6 v0 7 = true then (f_X7_looks h6 v0 x7 (((2 : Int32) * v1) + (1 : Int32))).bind fun h10 => (gI h10 v0 7 28).bind fun x11 => some ((x11, h10)) else none) else (if oK h6 v0 7 = true then (f_X7_looks h6 v0 x7 ((2 : Int32) * v1)).bind fun h8 => (gI h8 v0 7 28).bind fun x9 => some ((x9, h8)) else none) else none) else ((gR h v0 7 29).bind fun x1 => if (v1 - v1 / (4 : Int32) * (4 : Int32)) = (2 : Int32) then (if oK h v0 7 = true then (f_X7_looks h v0 x1 (((2 : Int32) * v1) + (1 : Int32))).bind fun h4 => (gI h4 v0 7 28).bind fun x5 => some ((x5, h4)) else none) else (if oK h v0 7 = true then (f_X7_looks h v0 x1 ((2 : Int32) * v1)).bind fun h2 => (gI h2 v0 7 28).bind fun x3 => some ((x3, h2)) else none))))) else ((gR h v0 7 29).bind fun x48 => (sI h 0 x48 v2 (0 : Int32)).bind fun h49 => f_X7_made_33 n v0 v1 (v2 + (1)) h49)
set_option maxHeartbeats 4000000 in
set_option maxRecDepth 100000 in
theorem w_X7_made_33 {g : GT} {l : Launch} {r : (Int32 × Hp)} : ∀ (n : Nat) (v0 : Nat) (v1 : Int32) (v2 : Int32) (h : Hp), f_X7_made_33 n v0 v1 v2 h = some r → PW g l m_X7_made 3 0 0 33 [some (.ref v0), some (.int v1), some (.int v2)] [] h (fun r9 h9 => r9 = some (.int r.1) ∧ h9 = r.2) := by
  intro n
  induction n with
  | zero => intro v0 v1 v2 h hf; cases hf
  | succ n ih =>
    intro v0 v1 v2 h hf
    rw [f_X7_made_33] at hf
    refine pw_iload_n dX7_made_33 rfl ?_
    refine pw_bipush (v := (121)) dX7_made_34 (by decide) ?_
    refine q_icmp_ge (tgt := 52) hf dX7_made_36 (by decide) (fun hf _ => ?_) (fun hf _ => ?_)
    · refine pw_iload_n dX7_made_52 rfl ?_
      refine pw_iconst (v := (4)) dX7_made_53 (by decide) ?_
      refine pw_irem dX7_made_54 (by decide) ?_
      refine q_if_ne (tgt := 65) hf dX7_made_55 (by decide) (fun hf _ => ?_) (fun hf _ => ?_)
      · refine pw_iload_n dX7_made_65 rfl ?_
        refine pw_iconst (v := (4)) dX7_made_66 (by decide) ?_
        refine pw_irem dX7_made_67 (by decide) ?_
        refine pw_iconst (v := (1)) dX7_made_68 (by decide) ?_
        refine q_icmp_ne (tgt := 79) hf dX7_made_69 (by decide) (fun hf _ => ?_) (fun hf _ => ?_)
        · refine pw_iload_n dX7_made_79 rfl ?_
          refine pw_iconst (v := (4)) dX7_made_80 (by decide) ?_
          refine pw_irem dX7_made_81 (by decide) ?_
          refine pw_iconst (v := (2)) dX7_made_82 (by decide) ?_
          refine q_icmp_ne (tgt := 93) hf dX7_made_83 (by decide) (fun hf _ => ?_) (fun hf _ => ?_)
          · refine pw_aload_n dX7_made_93 rfl ?_
            refine pw_aload_n dX7_made_94 rfl ?_
            refine q_gR hf rfl (by decide) w9_X7_made_X7 (by decide +kernel) dX7_made_95 (fun x1 hf => ?_)
            refine pw_iload_n dX7_made_98 rfl ?_
            refine pw_iconst (v := (4)) dX7_made_99 (by decide) ?_
            refine pw_irem dX7_made_100 (by decide) ?_
            refine pw_iconst (v := (2)) dX7_made_101 (by decide) ?_
            refine q_icmp_ne (tgt := 113) hf dX7_made_102 (by decide) (fun hf _ => ?_) (fun hf _ => ?_)
            · refine pw_iconst (v := (2)) dX7_made_113 (by decide) ?_
              refine pw_iload_n dX7_made_114 rfl ?_
              refine pw_imul dX7_made_115 ?_
              refine q_callV_v (kc2 := 0) (ks2 := 0) (as := [.ref x1, .int ((2 : Int32) * v1)]) (rest := []) hf (fun x9 e9 => t_X7_looks e9) gX7_made_X7_looks rfl hd9_X7_looks rfl rfl ⟨(by decide), by decide⟩ ⟨rfl, rfl⟩ (Nat.le_of_ble_eq_true rfl) dX7_made_116 rfl (fun h2 hf => ?_)
              refine pw_aload_n dX7_made_119 rfl ?_
              refine q_gI hf rfl (by decide) w9_X7_made_X7 (by decide +kernel) dX7_made_120 (fun x3 hf => ?_)
              exact pw_iret (x := x3) rfl rfl dX7_made_123 (ret_iw hf)
            · refine pw_iconst (v := (2)) dX7_made_105 (by decide) ?_
              refine pw_iload_n dX7_made_106 rfl ?_
              refine pw_imul dX7_made_107 ?_
              refine pw_iconst (v := (1)) dX7_made_108 (by decide) ?_
              refine pw_iadd dX7_made_109 ?_
              refine pw_goto (tgt := 116) dX7_made_110 (by decide) ?_
              refine q_callV_v (kc2 := 0) (ks2 := 0) (as := [.ref x1, .int (((2 : Int32) * v1) + (1 : Int32))]) (rest := []) hf (fun x9 e9 => t_X7_looks e9) gX7_made_X7_looks rfl hd9_X7_looks rfl rfl ⟨(by decide), by decide⟩ ⟨rfl, rfl⟩ (Nat.le_of_ble_eq_true rfl) dX7_made_116 rfl (fun h4 hf => ?_)
              refine pw_aload_n dX7_made_119 rfl ?_
              refine q_gI hf rfl (by decide) w9_X7_made_X7 (by decide +kernel) dX7_made_120 (fun x5 hf => ?_)
              exact pw_iret (x := x5) rfl rfl dX7_made_123 (ret_iw hf)
          · refine pw_aload_n dX7_made_86 rfl ?_
            refine pw_iload_n dX7_made_87 rfl ?_
            refine pw_iconst (v := (4)) dX7_made_88 (by decide) ?_
            refine pw_idiv dX7_made_89 (by decide) ?_
            refine q_callV_v (kc2 := 0) (ks2 := 0) (as := [.int (v1 / (4 : Int32))]) (rest := []) hf (fun x9 e9 => t_X7_laysTwos e9) gX7_made_X7_laysTwos rfl hd9_X7_laysTwos rfl rfl ⟨(by decide), by decide⟩ ⟨rfl, rfl⟩ (Nat.le_of_ble_eq_true rfl) dX7_made_90 rfl (fun h6 hf => ?_)
            refine pw_aload_n dX7_made_93 rfl ?_
            refine pw_aload_n dX7_made_94 rfl ?_
            refine q_gR hf rfl (by decide) w9_X7_made_X7 (by decide +kernel) dX7_made_95 (fun x7 hf => ?_)
            refine pw_iload_n dX7_made_98 rfl ?_
            refine pw_iconst (v := (4)) dX7_made_99 (by decide) ?_
            refine pw_irem dX7_made_100 (by decide) ?_
            refine pw_iconst (v := (2)) dX7_made_101 (by decide) ?_
            refine q_icmp_ne (tgt := 113) hf dX7_made_102 (by decide) (fun hf _ => ?_) (fun hf _ => ?_)
            · refine pw_iconst (v := (2)) dX7_made_113 (by decide) ?_
              refine pw_iload_n dX7_made_114 rfl ?_
              refine pw_imul dX7_made_115 ?_
              refine q_callV_v (kc2 := 0) (ks2 := 0) (as := [.ref x7, .int ((2 : Int32) * v1)]) (rest := []) hf (fun x9 e9 => t_X7_looks e9) gX7_made_X7_looks rfl hd9_X7_looks rfl rfl ⟨(by decide), by decide⟩ ⟨rfl, rfl⟩ (Nat.le_of_ble_eq_true rfl) dX7_made_116 rfl (fun h8 hf => ?_)
              refine pw_aload_n dX7_made_119 rfl ?_
              refine q_gI hf rfl (by decide) w9_X7_made_X7 (by decide +kernel) dX7_made_120 (fun x9 hf => ?_)
              exact pw_iret (x := x9) rfl rfl dX7_made_123 (ret_iw hf)
            · refine pw_iconst (v := (2)) dX7_made_105 (by decide) ?_
              refine pw_iload_n dX7_made_106 rfl ?_
              refine pw_imul dX7_made_107 ?_
              refine pw_iconst (v := (1)) dX7_made_108 (by decide) ?_
              refine pw_iadd dX7_made_109 ?_
              refine pw_goto (tgt := 116) dX7_made_110 (by decide) ?_
              refine q_callV_v (kc2 := 0) (ks2 := 0) (as := [.ref x7, .int (((2 : Int32) * v1) + (1 : Int32))]) (rest := []) hf (fun x9 e9 => t_X7_looks e9) gX7_made_X7_looks rfl hd9_X7_looks rfl rfl ⟨(by decide), by decide⟩ ⟨rfl, rfl⟩ (Nat.le_of_ble_eq_true rfl) dX7_made_116 rfl (fun h10 hf => ?_)
              refine pw_aload_n dX7_made_119 rfl ?_
              refine q_gI hf rfl (by decide) w9_X7_made_X7 (by decide +kernel) dX7_made_120 (fun x11 hf => ?_)
              exact pw_iret (x := x11) rfl rfl dX7_made_123 (ret_iw hf)
        · refine pw_aload_n dX7_made_72 rfl ?_
          refine pw_iload_n dX7_made_73 rfl ?_
          refine pw_iconst (v := (4)) dX7_made_74 (by decide) ?_
          refine pw_idiv dX7_made_75 (by decide) ?_
          refine q_callV_v (kc2 := 0) (ks2 := 0) (as := [.int (v1 / (4 : Int32))]) (rest := []) hf (fun x9 e9 => t_X7_laysOnes e9) gX7_made_X7_laysOnes rfl hd9_X7_laysOnes rfl rfl ⟨(by decide), by decide⟩ ⟨rfl, rfl⟩ (Nat.le_of_ble_eq_true rfl) dX7_made_76 rfl (fun h12 hf => ?_)
          refine pw_iload_n dX7_made_79 rfl ?_
          refine pw_iconst (v := (4)) dX7_made_80 (by decide) ?_
          refine pw_irem dX7_made_81 (by decide) ?_
          refine pw_iconst (v := (2)) dX7_made_82 (by decide) ?_
          refine q_icmp_ne (tgt := 93) hf dX7_made_83 (by decide) (fun hf _ => ?_) (fun hf _ => ?_)
          · refine pw_aload_n dX7_made_93 rfl ?_
            refine pw_aload_n dX7_made_94 rfl ?_
            refine q_gR hf rfl (by decide) w9_X7_made_X7 (by decide +kernel) dX7_made_95 (fun x13 hf => ?_)
            refine pw_iload_n dX7_made_98 rfl ?_
            refine pw_iconst (v := (4)) dX7_made_99 (by decide) ?_
            refine pw_irem dX7_made_100 (by decide) ?_
            refine pw_iconst (v := (2)) dX7_made_101 (by decide) ?_
            refine q_icmp_ne (tgt := 113) hf dX7_made_102 (by decide) (fun hf _ => ?_) (fun hf _ => ?_)
            · refine pw_iconst (v := (2)) dX7_made_113 (by decide) ?_
              refine pw_iload_n dX7_made_114 rfl ?_
              refine pw_imul dX7_made_115 ?_
              refine q_callV_v (kc2 := 0) (ks2 := 0) (as := [.ref x13, .int ((2 : Int32) * v1)]) (rest := []) hf (fun x9 e9 => t_X7_looks e9) gX7_made_X7_looks rfl hd9_X7_looks rfl rfl ⟨(by decide), by decide⟩ ⟨rfl, rfl⟩ (Nat.le_of_ble_eq_true rfl) dX7_made_116 rfl (fun h14 hf => ?_)
              refine pw_aload_n dX7_made_119 rfl ?_
              refine q_gI hf rfl (by decide) w9_X7_made_X7 (by decide +kernel) dX7_made_120 (fun x15 hf => ?_)
              exact pw_iret (x := x15) rfl rfl dX7_made_123 (ret_iw hf)
            · refine pw_iconst (v := (2)) dX7_made_105 (by decide) ?_
              refine pw_iload_n dX7_made_106 rfl ?_
              refine pw_imul dX7_made_107 ?_
              refine pw_iconst (v := (1)) dX7_made_108 (by decide) ?_
              refine pw_iadd dX7_made_109 ?_
              refine pw_goto (tgt := 116) dX7_made_110 (by decide) ?_
              refine q_callV_v (kc2 := 0) (ks2 := 0) (as := [.ref x13, .int (((2 : Int32) * v1) + (1 : Int32))]) (rest := []) hf (fun x9 e9 => t_X7_looks e9) gX7_made_X7_looks rfl hd9_X7_looks rfl rfl ⟨(by decide), by decide⟩ ⟨rfl, rfl⟩ (Nat.le_of_ble_eq_true rfl) dX7_made_116 rfl (fun h16 hf => ?_)
              refine pw_aload_n dX7_made_119 rfl ?_
              refine q_gI hf rfl (by decide) w9_X7_made_X7 (by decide +kernel) dX7_made_120 (fun x17 hf => ?_)
              exact pw_iret (x := x17) rfl rfl dX7_made_123 (ret_iw hf)
          · refine pw_aload_n dX7_made_86 rfl ?_
            refine pw_iload_n dX7_made_87 rfl ?_
            refine pw_iconst (v := (4)) dX7_made_88 (by decide) ?_
            refine pw_idiv dX7_made_89 (by decide) ?_
            refine q_callV_v (kc2 := 0) (ks2 := 0) (as := [.int (v1 / (4 : Int32))]) (rest := []) hf (fun x9 e9 => t_X7_laysTwos e9) gX7_made_X7_laysTwos rfl hd9_X7_laysTwos rfl rfl ⟨(by decide), by decide⟩ ⟨rfl, rfl⟩ (Nat.le_of_ble_eq_true rfl) dX7_made_90 rfl (fun h18 hf => ?_)
            refine pw_aload_n dX7_made_93 rfl ?_
            refine pw_aload_n dX7_made_94 rfl ?_
            refine q_gR hf rfl (by decide) w9_X7_made_X7 (by decide +kernel) dX7_made_95 (fun x19 hf => ?_)
            refine pw_iload_n dX7_made_98 rfl ?_
            refine pw_iconst (v := (4)) dX7_made_99 (by decide) ?_
            refine pw_irem dX7_made_100 (by decide) ?_
            refine pw_iconst (v := (2)) dX7_made_101 (by decide) ?_
            refine q_icmp_ne (tgt := 113) hf dX7_made_102 (by decide) (fun hf _ => ?_) (fun hf _ => ?_)
            · refine pw_iconst (v := (2)) dX7_made_113 (by decide) ?_
              refine pw_iload_n dX7_made_114 rfl ?_
              refine pw_imul dX7_made_115 ?_
              refine q_callV_v (kc2 := 0) (ks2 := 0) (as := [.ref x19, .int ((2 : Int32) * v1)]) (rest := []) hf (fun x9 e9 => t_X7_looks e9) gX7_made_X7_looks rfl hd9_X7_looks rfl rfl ⟨(by decide), by decide⟩ ⟨rfl, rfl⟩ (Nat.le_of_ble_eq_true rfl) dX7_made_116 rfl (fun h20 hf => ?_)
              refine pw_aload_n dX7_made_119 rfl ?_
              refine q_gI hf rfl (by decide) w9_X7_made_X7 (by decide +kernel) dX7_made_120 (fun x21 hf => ?_)
              exact pw_iret (x := x21) rfl rfl dX7_made_123 (ret_iw hf)
            · refine pw_iconst (v := (2)) dX7_made_105 (by decide) ?_
              refine pw_iload_n dX7_made_106 rfl ?_
              refine pw_imul dX7_made_107 ?_
              refine pw_iconst (v := (1)) dX7_made_108 (by decide) ?_
              refine pw_iadd dX7_made_109 ?_
              refine pw_goto (tgt := 116) dX7_made_110 (by decide) ?_
              refine q_callV_v (kc2 := 0) (ks2 := 0) (as := [.ref x19, .int (((2 : Int32) * v1) + (1 : Int32))]) (rest := []) hf (fun x9 e9 => t_X7_looks e9) gX7_made_X7_looks rfl hd9_X7_looks rfl rfl ⟨(by decide), by decide⟩ ⟨rfl, rfl⟩ (Nat.le_of_ble_eq_true rfl) dX7_made_116 rfl (fun h22 hf => ?_)
              refine pw_aload_n dX7_made_119 rfl ?_
              refine q_gI hf rfl (by decide) w9_X7_made_X7 (by decide +kernel) dX7_made_120 (fun x23 hf => ?_)
              exact pw_iret (x := x23) rfl rfl dX7_made_123 (ret_iw hf)
      · refine pw_aload_n dX7_made_58 rfl ?_
        refine pw_iload_n dX7_made_59 rfl ?_
        refine pw_iconst (v := (4)) dX7_made_60 (by decide) ?_
        refine pw_idiv dX7_made_61 (by decide) ?_
        refine q_callV_v (kc2 := 0) (ks2 := 0) (as := [.int (v1 / (4 : Int32))]) (rest := []) hf (fun x9 e9 => t_X7_laysFours e9) gX7_made_X7_laysFours rfl hd9_X7_laysFours rfl rfl ⟨(by decide), by decide⟩ ⟨rfl, rfl⟩ (Nat.le_of_ble_eq_true rfl) dX7_made_62 rfl (fun h24 hf => ?_)
        refine pw_iload_n dX7_made_65 rfl ?_
        refine pw_iconst (v := (4)) dX7_made_66 (by decide) ?_
        refine pw_irem dX7_made_67 (by decide) ?_
        refine pw_iconst (v := (1)) dX7_made_68 (by decide) ?_
        refine q_icmp_ne (tgt := 79) hf dX7_made_69 (by decide) (fun hf _ => ?_) (fun hf _ => ?_)
        · refine pw_iload_n dX7_made_79 rfl ?_
          refine pw_iconst (v := (4)) dX7_made_80 (by decide) ?_
          refine pw_irem dX7_made_81 (by decide) ?_
          refine pw_iconst (v := (2)) dX7_made_82 (by decide) ?_
          refine q_icmp_ne (tgt := 93) hf dX7_made_83 (by decide) (fun hf _ => ?_) (fun hf _ => ?_)
          · refine pw_aload_n dX7_made_93 rfl ?_
            refine pw_aload_n dX7_made_94 rfl ?_
            refine q_gR hf rfl (by decide) w9_X7_made_X7 (by decide +kernel) dX7_made_95 (fun x25 hf => ?_)
            refine pw_iload_n dX7_made_98 rfl ?_
            refine pw_iconst (v := (4)) dX7_made_99 (by decide) ?_
            refine pw_irem dX7_made_100 (by decide) ?_
            refine pw_iconst (v := (2)) dX7_made_101 (by decide) ?_
            refine q_icmp_ne (tgt := 113) hf dX7_made_102 (by decide) (fun hf _ => ?_) (fun hf _ => ?_)
            · refine pw_iconst (v := (2)) dX7_made_113 (by decide) ?_
              refine pw_iload_n dX7_made_114 rfl ?_
              refine pw_imul dX7_made_115 ?_
              refine q_callV_v (kc2 := 0) (ks2 := 0) (as := [.ref x25, .int ((2 : Int32) * v1)]) (rest := []) hf (fun x9 e9 => t_X7_looks e9) gX7_made_X7_looks rfl hd9_X7_looks rfl rfl ⟨(by decide), by decide⟩ ⟨rfl, rfl⟩ (Nat.le_of_ble_eq_true rfl) dX7_made_116 rfl (fun h26 hf => ?_)
              refine pw_aload_n dX7_made_119 rfl ?_
              refine q_gI hf rfl (by decide) w9_X7_made_X7 (by decide +kernel) dX7_made_120 (fun x27 hf => ?_)
              exact pw_iret (x := x27) rfl rfl dX7_made_123 (ret_iw hf)
            · refine pw_iconst (v := (2)) dX7_made_105 (by decide) ?_
              refine pw_iload_n dX7_made_106 rfl ?_
              refine pw_imul dX7_made_107 ?_
              refine pw_iconst (v := (1)) dX7_made_108 (by decide) ?_
              refine pw_iadd dX7_made_109 ?_
              refine pw_goto (tgt := 116) dX7_made_110 (by decide) ?_
              refine q_callV_v (kc2 := 0) (ks2 := 0) (as := [.ref x25, .int (((2 : Int32) * v1) + (1 : Int32))]) (rest := []) hf (fun x9 e9 => t_X7_looks e9) gX7_made_X7_looks rfl hd9_X7_looks rfl rfl ⟨(by decide), by decide⟩ ⟨rfl, rfl⟩ (Nat.le_of_ble_eq_true rfl) dX7_made_116 rfl (fun h28 hf => ?_)
              refine pw_aload_n dX7_made_119 rfl ?_
              refine q_gI hf rfl (by decide) w9_X7_made_X7 (by decide +kernel) dX7_made_120 (fun x29 hf => ?_)
              exact pw_iret (x := x29) rfl rfl dX7_made_123 (ret_iw hf)
          · refine pw_aload_n dX7_made_86 rfl ?_
            refine pw_iload_n dX7_made_87 rfl ?_
            refine pw_iconst (v := (4)) dX7_made_88 (by decide) ?_
            refine pw_idiv dX7_made_89 (by decide) ?_
            refine q_callV_v (kc2 := 0) (ks2 := 0) (as := [.int (v1 / (4 : Int32))]) (rest := []) hf (fun x9 e9 => t_X7_laysTwos e9) gX7_made_X7_laysTwos rfl hd9_X7_laysTwos rfl rfl ⟨(by decide), by decide⟩ ⟨rfl, rfl⟩ (Nat.le_of_ble_eq_true rfl) dX7_made_90 rfl (fun h30 hf => ?_)
            refine pw_aload_n dX7_made_93 rfl ?_
            refine pw_aload_n dX7_made_94 rfl ?_
            refine q_gR hf rfl (by decide) w9_X7_made_X7 (by decide +kernel) dX7_made_95 (fun x31 hf => ?_)
            refine pw_iload_n dX7_made_98 rfl ?_
            refine pw_iconst (v := (4)) dX7_made_99 (by decide) ?_
            refine pw_irem dX7_made_100 (by decide) ?_
            refine pw_iconst (v := (2)) dX7_made_101 (by decide) ?_
            refine q_icmp_ne (tgt := 113) hf dX7_made_102 (by decide) (fun hf _ => ?_) (fun hf _ => ?_)
            · refine pw_iconst (v := (2)) dX7_made_113 (by decide) ?_
              refine pw_iload_n dX7_made_114 rfl ?_
              refine pw_imul dX7_made_115 ?_
              refine q_callV_v (kc2 := 0) (ks2 := 0) (as := [.ref x31, .int ((2 : Int32) * v1)]) (rest := []) hf (fun x9 e9 => t_X7_looks e9) gX7_made_X7_looks rfl hd9_X7_looks rfl rfl ⟨(by decide), by decide⟩ ⟨rfl, rfl⟩ (Nat.le_of_ble_eq_true rfl) dX7_made_116 rfl (fun h32 hf => ?_)
              refine pw_aload_n dX7_made_119 rfl ?_
              refine q_gI hf rfl (by decide) w9_X7_made_X7 (by decide +kernel) dX7_made_120 (fun x33 hf => ?_)
              exact pw_iret (x := x33) rfl rfl dX7_made_123 (ret_iw hf)
            · refine pw_iconst (v := (2)) dX7_made_105 (by decide) ?_
              refine pw_iload_n dX7_made_106 rfl ?_
              refine pw_imul dX7_made_107 ?_
              refine pw_iconst (v := (1)) dX7_made_108 (by decide) ?_
              refine pw_iadd dX7_made_109 ?_
              refine pw_goto (tgt := 116) dX7_made_110 (by decide) ?_
              refine q_callV_v (kc2 := 0) (ks2 := 0) (as := [.ref x31, .int (((2 : Int32) * v1) + (1 : Int32))]) (rest := []) hf (fun x9 e9 => t_X7_looks e9) gX7_made_X7_looks rfl hd9_X7_looks rfl rfl ⟨(by decide), by decide⟩ ⟨rfl, rfl⟩ (Nat.le_of_ble_eq_true rfl) dX7_made_116 rfl (fun h34 hf => ?_)
              refine pw_aload_n dX7_made_119 rfl ?_
              refine q_gI hf rfl (by decide) w9_X7_made_X7 (by decide +kernel) dX7_made_120 (fun x35 hf => ?_)
              exact pw_iret (x := x35) rfl rfl dX7_made_123 (ret_iw hf)
        · refine pw_aload_n dX7_made_72 rfl ?_
          refine pw_iload_n dX7_made_73 rfl ?_
          refine pw_iconst (v := (4)) dX7_made_74 (by decide) ?_
          refine pw_idiv dX7_made_75 (by decide) ?_
          refine q_callV_v (kc2 := 0) (ks2 := 0) (as := [.int (v1 / (4 : Int32))]) (rest := []) hf (fun x9 e9 => t_X7_laysOnes e9) gX7_made_X7_laysOnes rfl hd9_X7_laysOnes rfl rfl ⟨(by decide), by decide⟩ ⟨rfl, rfl⟩ (Nat.le_of_ble_eq_true rfl) dX7_made_76 rfl (fun h36 hf => ?_)
          refine pw_iload_n dX7_made_79 rfl ?_
          refine pw_iconst (v := (4)) dX7_made_80 (by decide) ?_
          refine pw_irem dX7_made_81 (by decide) ?_
          refine pw_iconst (v := (2)) dX7_made_82 (by decide) ?_
          refine q_icmp_ne (tgt := 93) hf dX7_made_83 (by decide) (fun hf _ => ?_) (fun hf _ => ?_)
          · refine pw_aload_n dX7_made_93 rfl ?_
            refine pw_aload_n dX7_made_94 rfl ?_
            refine q_gR hf rfl (by decide) w9_X7_made_X7 (by decide +kernel) dX7_made_95 (fun x37 hf => ?_)
            refine pw_iload_n dX7_made_98 rfl ?_
            refine pw_iconst (v := (4)) dX7_made_99 (by decide) ?_
            refine pw_irem dX7_made_100 (by decide) ?_
            refine pw_iconst (v := (2)) dX7_made_101 (by decide) ?_
            refine q_icmp_ne (tgt := 113) hf dX7_made_102 (by decide) (fun hf _ => ?_) (fun hf _ => ?_)
            · refine pw_iconst (v := (2)) dX7_made_113 (by decide) ?_
              refine pw_iload_n dX7_made_114 rfl ?_
              refine pw_imul dX7_made_115 ?_
              refine q_callV_v (kc2 := 0) (ks2 := 0) (as := [.ref x37, .int ((2 : Int32) * v1)]) (rest := []) hf (fun x9 e9 => t_X7_looks e9) gX7_made_X7_looks rfl hd9_X7_looks rfl rfl ⟨(by decide), by decide⟩ ⟨rfl, rfl⟩ (Nat.le_of_ble_eq_true rfl) dX7_made_116 rfl (fun h38 hf => ?_)
              refine pw_aload_n dX7_made_119 rfl ?_
              refine q_gI hf rfl (by decide) w9_X7_made_X7 (by decide +kernel) dX7_made_120 (fun x39 hf => ?_)
              exact pw_iret (x := x39) rfl rfl dX7_made_123 (ret_iw hf)
            · refine pw_iconst (v := (2)) dX7_made_105 (by decide) ?_
              refine pw_iload_n dX7_made_106 rfl ?_
              refine pw_imul dX7_made_107 ?_
              refine pw_iconst (v := (1)) dX7_made_108 (by decide) ?_
              refine pw_iadd dX7_made_109 ?_
              refine pw_goto (tgt := 116) dX7_made_110 (by decide) ?_
              refine q_callV_v (kc2 := 0) (ks2 := 0) (as := [.ref x37, .int (((2 : Int32) * v1) + (1 : Int32))]) (rest := []) hf (fun x9 e9 => t_X7_looks e9) gX7_made_X7_looks rfl hd9_X7_looks rfl rfl ⟨(by decide), by decide⟩ ⟨rfl, rfl⟩ (Nat.le_of_ble_eq_true rfl) dX7_made_116 rfl (fun h40 hf => ?_)
              refine pw_aload_n dX7_made_119 rfl ?_
              refine q_gI hf rfl (by decide) w9_X7_made_X7 (by decide +kernel) dX7_made_120 (fun x41 hf => ?_)
              exact pw_iret (x := x41) rfl rfl dX7_made_123 (ret_iw hf)
          · refine pw_aload_n dX7_made_86 rfl ?_
            refine pw_iload_n dX7_made_87 rfl ?_
            refine pw_iconst (v := (4)) dX7_made_88 (by decide) ?_
            refine pw_idiv dX7_made_89 (by decide) ?_
            refine q_callV_v (kc2 := 0) (ks2 := 0) (as := [.int (v1 / (4 : Int32))]) (rest := []) hf (fun x9 e9 => t_X7_laysTwos e9) gX7_made_X7_laysTwos rfl hd9_X7_laysTwos rfl rfl ⟨(by decide), by decide⟩ ⟨rfl, rfl⟩ (Nat.le_of_ble_eq_true rfl) dX7_made_90 rfl (fun h42 hf => ?_)
            refine pw_aload_n dX7_made_93 rfl ?_
            refine pw_aload_n dX7_made_94 rfl ?_
            refine q_gR hf rfl (by decide) w9_X7_made_X7 (by decide +kernel) dX7_made_95 (fun x43 hf => ?_)
            refine pw_iload_n dX7_made_98 rfl ?_
            refine pw_iconst (v := (4)) dX7_made_99 (by decide) ?_
            refine pw_irem dX7_made_100 (by decide) ?_
            refine pw_iconst (v := (2)) dX7_made_101 (by decide) ?_
            refine q_icmp_ne (tgt := 113) hf dX7_made_102 (by decide) (fun hf _ => ?_) (fun hf _ => ?_)
            · refine pw_iconst (v := (2)) dX7_made_113 (by decide) ?_
              refine pw_iload_n dX7_made_114 rfl ?_
              refine pw_imul dX7_made_115 ?_
              refine q_callV_v (kc2 := 0) (ks2 := 0) (as := [.ref x43, .int ((2 : Int32) * v1)]) (rest := []) hf (fun x9 e9 => t_X7_looks e9) gX7_made_X7_looks rfl hd9_X7_looks rfl rfl ⟨(by decide), by decide⟩ ⟨rfl, rfl⟩ (Nat.le_of_ble_eq_true rfl) dX7_made_116 rfl (fun h44 hf => ?_)
              refine pw_aload_n dX7_made_119 rfl ?_
              refine q_gI hf rfl (by decide) w9_X7_made_X7 (by decide +kernel) dX7_made_120 (fun x45 hf => ?_)
              exact pw_iret (x := x45) rfl rfl dX7_made_123 (ret_iw hf)
            · refine pw_iconst (v := (2)) dX7_made_105 (by decide) ?_
              refine pw_iload_n dX7_made_106 rfl ?_
              refine pw_imul dX7_made_107 ?_
              refine pw_iconst (v := (1)) dX7_made_108 (by decide) ?_
              refine pw_iadd dX7_made_109 ?_
              refine pw_goto (tgt := 116) dX7_made_110 (by decide) ?_
              refine q_callV_v (kc2 := 0) (ks2 := 0) (as := [.ref x43, .int (((2 : Int32) * v1) + (1 : Int32))]) (rest := []) hf (fun x9 e9 => t_X7_looks e9) gX7_made_X7_looks rfl hd9_X7_looks rfl rfl ⟨(by decide), by decide⟩ ⟨rfl, rfl⟩ (Nat.le_of_ble_eq_true rfl) dX7_made_116 rfl (fun h46 hf => ?_)
              refine pw_aload_n dX7_made_119 rfl ?_
              refine q_gI hf rfl (by decide) w9_X7_made_X7 (by decide +kernel) dX7_made_120 (fun x47 hf => ?_)
              exact pw_iret (x := x47) rfl rfl dX7_made_123 (ret_iw hf)
    · refine pw_aload_n dX7_made_39 rfl ?_
      refine q_gR hf rfl (by decide) w9_X7_made_X7 (by decide +kernel) dX7_made_40 (fun x48 hf => ?_)
      refine pw_iload_n dX7_made_43 rfl ?_
      refine pw_iconst (v := (0)) dX7_made_44 (by decide) ?_
      refine q_iast hf dX7_made_45 (fun h49 hf => ?_)
      refine pw_iinc (v := v2 + (1)) dX7_made_46 rfl rfl (by decide) rfl ?_
      dsimp only [lset, lset2, clr]
      refine pw_goto (tgt := 33) dX7_made_49 (by decide) ?_
      exact pw_lo (lle_s rfl (lle_s rfl (lle_s rfl lle_0))) (ih _ _ _ _ hf)
def f_X7_made (h : Hp) (a0 : Nat) (a1 : Int32) : Option (Int32 × Hp) := (pV h a0 7 0 (.int (0 : Int32))).bind fun h1 => if a1 = (6 : Int32) then (if (a1 - a1 / (4 : Int32) * (4 : Int32)) = (3 : Int32) then (some (((-1 : Int32), h1))) else (f_X7_made_33 4096 a0 a1 (0 : Int32) h1)) else ((f_X7_isIn h1 a1 (8 : Int32) (60 : Int32)).bind fun x2 => if x2 = 0 then (some (((-1 : Int32), h1))) else (if (a1 - a1 / (4 : Int32) * (4 : Int32)) = (3 : Int32) then (some (((-1 : Int32), h1))) else (f_X7_made_33 4096 a0 a1 (0 : Int32) h1)))
set_option maxHeartbeats 4000000 in
set_option maxRecDepth 100000 in
theorem t_X7_made {g : GT} {l : Launch} {h : Hp} {a0 : Nat} {a1 : Int32} {r : (Int32 × Hp)} (hf : f_X7_made h a0 a1 = some r) : PM g l 3 0 0 yX7_made wsX7_made [.ref a0, .int a1] h (fun r9 h9 => r9 = some (.int r.1) ∧ h9 = r.2) := by
  refine pm_of (M := m_X7_made) (by decide) rfl rfl rfl (Nat.le_of_ble_eq_true rfl) (lo := [some (.ref a0), some (.int a1), none]) rfl ?_
  rw [f_X7_made] at hf
  refine pw_aload_n dX7_made_0 rfl ?_
  refine pw_iconst (v := (0)) dX7_made_1 (by decide) ?_
  refine q_pV (ty := .int) hf tyX7 tyX7_ok nmX7 rfl (by decide) w9_X7_made_X7 (by decide +kernel) rfl (by decide +kernel) rfl rfl dX7_made_2 (fun h1 hf => ?_)
  refine pw_iload_n dX7_made_5 rfl ?_
  refine pw_bipush (v := (6)) dX7_made_6 (by decide) ?_
  refine q_icmp_eq (tgt := 22) hf dX7_made_8 (by decide) (fun hf _ => ?_) (fun hf _ => ?_)
  · refine pw_iload_n dX7_made_22 rfl ?_
    refine pw_iconst (v := (4)) dX7_made_23 (by decide) ?_
    refine pw_irem dX7_made_24 (by decide) ?_
    refine pw_iconst (v := (3)) dX7_made_25 (by decide) ?_
    refine q_icmp_ne (tgt := 31) hf dX7_made_26 (by decide) (fun hf _ => ?_) (fun hf _ => ?_)
    · refine pw_iconst (v := (0)) dX7_made_31 (by decide) ?_
      refine pw_istore_n dX7_made_32 (by decide) rfl ?_
      dsimp only [lset, lset2, clr]
      exact pw_lo (lle_s rfl (lle_s rfl (lle_s rfl lle_0))) (w_X7_made_33 4096 _ _ _ _ hf)
    · refine pw_iconst (v := (-1)) dX7_made_29 (by decide) ?_
      exact pw_iret (x := (-1 : Int32)) rfl rfl dX7_made_30 (ret_iw hf)
  · refine pw_iload_n dX7_made_11 rfl ?_
    refine pw_bipush (v := (8)) dX7_made_12 (by decide) ?_
    refine pw_bipush (v := (60)) dX7_made_14 (by decide) ?_
    refine q_callS_i (kc2 := 0) (ks2 := 0) (as := [.int a1, .int (8 : Int32), .int (60 : Int32)]) (rest := []) hf (fun x9 e9 => t_X7_isIn e9) gX7_made_X7_isIn rfl hd9_X7_isIn rfl ⟨(by decide), by decide⟩ ⟨rfl, rfl⟩ (Nat.le_of_ble_eq_true rfl) dX7_made_16 rfl (fun x2 hf => ?_)
    refine q_if_eq (tgt := 29) hf dX7_made_19 (by decide) (fun hf _ => ?_) (fun hf _ => ?_)
    · refine pw_iconst (v := (-1)) dX7_made_29 (by decide) ?_
      exact pw_iret (x := (-1 : Int32)) rfl rfl dX7_made_30 (ret_iw hf)
    · refine pw_iload_n dX7_made_22 rfl ?_
      refine pw_iconst (v := (4)) dX7_made_23 (by decide) ?_
      refine pw_irem dX7_made_24 (by decide) ?_
      refine pw_iconst (v := (3)) dX7_made_25 (by decide) ?_
      refine q_icmp_ne (tgt := 31) hf dX7_made_26 (by decide) (fun hf _ => ?_) (fun hf _ => ?_)
      · refine pw_iconst (v := (0)) dX7_made_31 (by decide) ?_
        refine pw_istore_n dX7_made_32 (by decide) rfl ?_
        dsimp only [lset, lset2, clr]
        exact pw_lo (lle_s rfl (lle_s rfl (lle_s rfl lle_0))) (w_X7_made_33 4096 _ _ _ _ hf)
      · refine pw_iconst (v := (-1)) dX7_made_29 (by decide) ?_
        exact pw_iret (x := (-1 : Int32)) rfl rfl dX7_made_30 (ret_iw hf)
/-! X7_orderOf -/
abbrev m_X7_orderOf : MD := (cX7_orderOf, RX7, "orderOf", wsX7_orderOf, 5, (some .int))
theorem w9_X7_orderOf_X7 : ∀ w ∈ u_ws RX7 TX7 31, w ∈ wsX7_orderOf := by decide +kernel
theorem hd9_X7_orderOf : yX7_orderOf.cls = RX7 ∧ yX7_orderOf.cls ≠ "java/lang/invoke/MethodHandle" ∧ yX7_orderOf.cls ≠ "java/lang/invoke/VarHandle" ∧ (parseMethodDescriptor yX7_orderOf.desc).map (fun d => d.parameters.length) = some 0 := by decide +kernel
def f_X7_orderOf_71 : Nat → Nat → Int32 → Int32 → Hp → Option Int32
  | 0, _, _, _, _ => none
  | n + 1, v0, v3, v4, h => if v3 < v4 then (some (v3)) else (if oK h v0 7 = true then (f_X7_firstOf h v0 v4).bind fun x1 => if x1 = (-1 : Int32) then (some ((0 : Int32))) else (f_X7_orderOf_71 n v0 v3 (v4 + (1)) h) else none)
set_option maxHeartbeats 4000000 in
set_option maxRecDepth 100000 in
theorem w_X7_orderOf_71 {g : GT} {l : Launch} {r : Int32} : ∀ (n : Nat) (v0 : Nat) (v3 : Int32) (v4 : Int32) (h : Hp), f_X7_orderOf_71 n v0 v3 v4 h = some r → PW g l m_X7_orderOf 2 0 0 71 [some (.ref v0), none, none, some (.int v3), some (.int v4)] [] h (fun r9 h9 => r9 = some (.int r) ∧ h9 = h) := by
  intro n
  induction n with
  | zero => intro v0 v3 v4 h hf; cases hf
  | succ n ih =>
    intro v0 v3 v4 h hf
    rw [f_X7_orderOf_71] at hf
    refine pw_iload dX7_orderOf_71 rfl ?_
    refine pw_iload_n dX7_orderOf_73 rfl ?_
    refine q_icmp_gt (tgt := 95) hf dX7_orderOf_74 (by decide) (fun hf _ => ?_) (fun hf _ => ?_)
    · refine pw_iload_n dX7_orderOf_95 rfl ?_
      exact pw_iret (x := v3) rfl rfl dX7_orderOf_96 ⟨congrArg (fun z => some (Value.int z)) (Option.some.inj hf), rfl⟩
    · refine pw_aload_n dX7_orderOf_77 rfl ?_
      refine pw_iload dX7_orderOf_78 rfl ?_
      refine q_callV_i (kc2 := 0) (ks2 := 0) (as := [.int v4]) (rest := []) hf (fun x9 e9 => t_X7_firstOf e9) gX7_orderOf_X7_firstOf rfl hd9_X7_firstOf rfl rfl ⟨(by decide), by decide⟩ ⟨rfl, rfl⟩ (Nat.le_of_ble_eq_true rfl) dX7_orderOf_80 rfl (fun x1 hf => ?_)
      refine pw_iconst (v := (-1)) dX7_orderOf_83 (by decide) ?_
      refine q_icmp_ne (tgt := 89) hf dX7_orderOf_84 (by decide) (fun hf _ => ?_) (fun hf _ => ?_)
      · refine pw_iinc (v := v4 + (1)) dX7_orderOf_89 rfl rfl (by decide) rfl ?_
        dsimp only [lset, lset2, clr]
        refine pw_goto (tgt := 71) dX7_orderOf_92 (by decide) ?_
        exact pw_lo (lle_s rfl (lle_n (lle_n (lle_s rfl (lle_s rfl lle_0))))) (ih _ _ _ _ hf)
      · refine pw_iconst (v := (0)) dX7_orderOf_87 (by decide) ?_
        exact pw_iret (x := (0 : Int32)) rfl rfl dX7_orderOf_88 ⟨congrArg (fun z => some (Value.int z)) (Option.some.inj hf), rfl⟩
def f_X7_orderOf_6 : Nat → Nat → Int32 → Int32 → Int32 → Hp → Option Int32
  | 0, _, _, _, _, _ => none
  | n + 1, v0, v1, v2, v3, h => (gI h v0 7 28).bind fun x1 => if x1 ≤ v3 then (if v2 = v1 then (f_X7_orderOf_71 4096 v0 (v1 / (2 : Int32)) (1 : Int32) h) else (if v2 = (v1 + (1 : Int32)) then ((gR h v0 7 27).bind fun x2 => (aI h 0 x2 (v1 - (1 : Int32))).bind fun x3 => if x3 = 0 then (f_X7_orderOf_71 4096 v0 (v1 / (2 : Int32)) (1 : Int32) h) else (some ((0 : Int32)))) else (some ((0 : Int32))))) else ((gR h v0 7 27).bind fun x4 => (aI h 0 x4 v3).bind fun x5 => if x5 = 0 then (f_X7_orderOf_6 n v0 v1 v2 (v3 + (1)) h) else (f_X7_orderOf_6 n v0 (v1 + (1)) (v3 + (1 : Int32)) (v3 + (1)) h))
set_option maxHeartbeats 4000000 in
set_option maxRecDepth 100000 in
theorem w_X7_orderOf_6 {g : GT} {l : Launch} {r : Int32} : ∀ (n : Nat) (v0 : Nat) (v1 : Int32) (v2 : Int32) (v3 : Int32) (h : Hp), f_X7_orderOf_6 n v0 v1 v2 v3 h = some r → PW g l m_X7_orderOf 2 0 0 6 [some (.ref v0), some (.int v1), some (.int v2), some (.int v3), none] [] h (fun r9 h9 => r9 = some (.int r) ∧ h9 = h) := by
  intro n
  induction n with
  | zero => intro v0 v1 v2 v3 h hf; cases hf
  | succ n ih =>
    intro v0 v1 v2 v3 h hf
    rw [f_X7_orderOf_6] at hf
    refine pw_iload_n dX7_orderOf_6 rfl ?_
    refine pw_aload_n dX7_orderOf_7 rfl ?_
    refine q_gI hf rfl (by decide) w9_X7_orderOf_X7 (by decide +kernel) dX7_orderOf_8 (fun x1 hf => ?_)
    refine q_icmp_ge (tgt := 39) hf dX7_orderOf_11 (by decide) (fun hf _ => ?_) (fun hf _ => ?_)
    · refine pw_iload_n dX7_orderOf_39 rfl ?_
      refine pw_iconst (v := (2)) dX7_orderOf_40 (by decide) ?_
      refine pw_idiv dX7_orderOf_41 (by decide) ?_
      refine pw_istore_n dX7_orderOf_42 (by decide) rfl ?_
      dsimp only [lset, lset2, clr]
      refine pw_iload_n dX7_orderOf_43 rfl ?_
      refine pw_iload_n dX7_orderOf_44 rfl ?_
      refine q_icmp_eq (tgt := 68) hf dX7_orderOf_45 (by decide) (fun hf _ => ?_) (fun hf _ => ?_)
      · refine pw_iconst (v := (1)) dX7_orderOf_68 (by decide) ?_
        refine pw_istore dX7_orderOf_69 (by decide) rfl ?_
        dsimp only [lset, lset2, clr]
        exact pw_lo (lle_s rfl (lle_n (lle_n (lle_s rfl (lle_s rfl lle_0))))) (w_X7_orderOf_71 4096 _ _ _ _ hf)
      · refine pw_iload_n dX7_orderOf_48 rfl ?_
        refine pw_iload_n dX7_orderOf_49 rfl ?_
        refine pw_iconst (v := (1)) dX7_orderOf_50 (by decide) ?_
        refine pw_iadd dX7_orderOf_51 ?_
        refine q_icmp_ne (tgt := 66) hf dX7_orderOf_52 (by decide) (fun hf _ => ?_) (fun hf _ => ?_)
        · refine pw_iconst (v := (0)) dX7_orderOf_66 (by decide) ?_
          exact pw_iret (x := (0 : Int32)) rfl rfl dX7_orderOf_67 ⟨congrArg (fun z => some (Value.int z)) (Option.some.inj hf), rfl⟩
        · refine pw_aload_n dX7_orderOf_55 rfl ?_
          refine q_gR hf rfl (by decide) w9_X7_orderOf_X7 (by decide +kernel) dX7_orderOf_56 (fun x2 hf => ?_)
          refine pw_iload_n dX7_orderOf_59 rfl ?_
          refine pw_iconst (v := (1)) dX7_orderOf_60 (by decide) ?_
          refine pw_isub dX7_orderOf_61 ?_
          refine q_iald hf dX7_orderOf_62 (fun x3 hf => ?_)
          refine q_if_eq (tgt := 68) hf dX7_orderOf_63 (by decide) (fun hf _ => ?_) (fun hf _ => ?_)
          · refine pw_iconst (v := (1)) dX7_orderOf_68 (by decide) ?_
            refine pw_istore dX7_orderOf_69 (by decide) rfl ?_
            dsimp only [lset, lset2, clr]
            exact pw_lo (lle_s rfl (lle_n (lle_n (lle_s rfl (lle_s rfl lle_0))))) (w_X7_orderOf_71 4096 _ _ _ _ hf)
          · refine pw_iconst (v := (0)) dX7_orderOf_66 (by decide) ?_
            exact pw_iret (x := (0 : Int32)) rfl rfl dX7_orderOf_67 ⟨congrArg (fun z => some (Value.int z)) (Option.some.inj hf), rfl⟩
    · refine pw_aload_n dX7_orderOf_14 rfl ?_
      refine q_gR hf rfl (by decide) w9_X7_orderOf_X7 (by decide +kernel) dX7_orderOf_15 (fun x4 hf => ?_)
      refine pw_iload_n dX7_orderOf_18 rfl ?_
      refine q_iald hf dX7_orderOf_19 (fun x5 hf => ?_)
      refine q_if_ne (tgt := 26) hf dX7_orderOf_20 (by decide) (fun hf _ => ?_) (fun hf _ => ?_)
      · refine pw_iinc (v := v1 + (1)) dX7_orderOf_26 rfl rfl (by decide) rfl ?_
        dsimp only [lset, lset2, clr]
        refine pw_iload_n dX7_orderOf_29 rfl ?_
        refine pw_iconst (v := (1)) dX7_orderOf_30 (by decide) ?_
        refine pw_iadd dX7_orderOf_31 ?_
        refine pw_istore_n dX7_orderOf_32 (by decide) rfl ?_
        dsimp only [lset, lset2, clr]
        refine pw_iinc (v := v3 + (1)) dX7_orderOf_33 rfl rfl (by decide) rfl ?_
        dsimp only [lset, lset2, clr]
        refine pw_goto (tgt := 6) dX7_orderOf_36 (by decide) ?_
        exact pw_lo (lle_s rfl (lle_s rfl (lle_s rfl (lle_s rfl (lle_n lle_0))))) (ih _ _ _ _ _ hf)
      · refine pw_goto (tgt := 33) dX7_orderOf_23 (by decide) ?_
        refine pw_iinc (v := v3 + (1)) dX7_orderOf_33 rfl rfl (by decide) rfl ?_
        dsimp only [lset, lset2, clr]
        refine pw_goto (tgt := 6) dX7_orderOf_36 (by decide) ?_
        exact pw_lo (lle_s rfl (lle_s rfl (lle_s rfl (lle_s rfl (lle_n lle_0))))) (ih _ _ _ _ _ hf)
def f_X7_orderOf (h : Hp) (a0 : Nat) : Option Int32 := f_X7_orderOf_6 4096 a0 (0 : Int32) (0 : Int32) (0 : Int32) h
set_option maxHeartbeats 4000000 in
set_option maxRecDepth 100000 in
theorem t_X7_orderOf {g : GT} {l : Launch} {h : Hp} {a0 : Nat} {r : Int32} (hf : f_X7_orderOf h a0 = some r) : PM g l 2 0 0 yX7_orderOf wsX7_orderOf [.ref a0] h (fun r9 h9 => r9 = some (.int r) ∧ h9 = h) := by
  refine pm_of (M := m_X7_orderOf) (by decide) rfl rfl rfl (Nat.le_of_ble_eq_true rfl) (lo := [some (.ref a0), none, none, none, none]) rfl ?_
  rw [f_X7_orderOf] at hf
  refine pw_iconst (v := (0)) dX7_orderOf_0 (by decide) ?_
  refine pw_istore_n dX7_orderOf_1 (by decide) rfl ?_
  dsimp only [lset, lset2, clr]
  refine pw_iconst (v := (0)) dX7_orderOf_2 (by decide) ?_
  refine pw_istore_n dX7_orderOf_3 (by decide) rfl ?_
  dsimp only [lset, lset2, clr]
  refine pw_iconst (v := (0)) dX7_orderOf_4 (by decide) ?_
  refine pw_istore_n dX7_orderOf_5 (by decide) rfl ?_
  dsimp only [lset, lset2, clr]
  exact pw_lo (lle_s rfl (lle_s rfl (lle_s rfl (lle_s rfl (lle_n lle_0))))) (w_X7_orderOf_6 4096 _ _ _ _ _ hf)
/-! X7_third -/
abbrev m_X7_third : MD := (cX7_third, RX7, "third", wsX7_third, 12, (some .int))
theorem w9_X7_third_X7 : ∀ w ∈ u_ws RX7 TX7 31, w ∈ wsX7_third := by decide +kernel
theorem hd9_X7_third : yX7_third.cls = RX7 ∧ yX7_third.cls ≠ "java/lang/invoke/MethodHandle" ∧ yX7_third.cls ≠ "java/lang/invoke/VarHandle" ∧ (parseMethodDescriptor yX7_third.desc).map (fun d => d.parameters.length) = some 2 := by decide +kernel
def f_X7_third_78 (k56 : Nat → Int32 → Int32 → Int32 → Int32 → Int32 → Hp → Option (Int32 × Hp)) : Nat → Nat → Int32 → Int32 → Int32 → Int32 → Int32 → Int32 → Int32 → Hp → Option (Int32 × Hp)
  | 0, _, _, _, _, _, _, _, _, _ => none
  | n + 1, v0, v1, v2, v3, v4, v5, v6, v7, h => if v4 ≤ v7 then (k56 v0 v1 v2 v3 v4 (v5 + (1)) h) else (if v4 = 0 then none else if v4 = 0 then none else if v7 = v1 then (if v7 = v2 then (if (1 : Int32) = 0 then (f_X7_third_78 k56 n v0 v1 v2 v3 v4 v5 v6 (v7 + (1)) h) else (if (1 : Int32) = 0 then (f_X7_third_78 k56 n v0 v1 v2 v3 v4 v5 v6 (v7 + (1)) h) else (some (((((v7 + ((v7 + v5) - (v7 + v5) / v4 * v4)) + ((v7 + v6) - (v7 + v6) / v4 * v4)) - v1) - v2, h))))) else (if ((v7 + v5) - (v7 + v5) / v4 * v4) = v2 then (if (1 : Int32) = 0 then (f_X7_third_78 k56 n v0 v1 v2 v3 v4 v5 v6 (v7 + (1)) h) else (if (1 : Int32) = 0 then (f_X7_third_78 k56 n v0 v1 v2 v3 v4 v5 v6 (v7 + (1)) h) else (some (((((v7 + ((v7 + v5) - (v7 + v5) / v4 * v4)) + ((v7 + v6) - (v7 + v6) / v4 * v4)) - v1) - v2, h))))) else (if ((v7 + v6) - (v7 + v6) / v4 * v4) = v2 then (if (1 : Int32) = 0 then (f_X7_third_78 k56 n v0 v1 v2 v3 v4 v5 v6 (v7 + (1)) h) else (if (1 : Int32) = 0 then (f_X7_third_78 k56 n v0 v1 v2 v3 v4 v5 v6 (v7 + (1)) h) else (some (((((v7 + ((v7 + v5) - (v7 + v5) / v4 * v4)) + ((v7 + v6) - (v7 + v6) / v4 * v4)) - v1) - v2, h))))) else (if (1 : Int32) = 0 then (f_X7_third_78 k56 n v0 v1 v2 v3 v4 v5 v6 (v7 + (1)) h) else (if (0 : Int32) = 0 then (f_X7_third_78 k56 n v0 v1 v2 v3 v4 v5 v6 (v7 + (1)) h) else (some (((((v7 + ((v7 + v5) - (v7 + v5) / v4 * v4)) + ((v7 + v6) - (v7 + v6) / v4 * v4)) - v1) - v2, h)))))))) else (if ((v7 + v5) - (v7 + v5) / v4 * v4) = v1 then (if v7 = v2 then (if (1 : Int32) = 0 then (f_X7_third_78 k56 n v0 v1 v2 v3 v4 v5 v6 (v7 + (1)) h) else (if (1 : Int32) = 0 then (f_X7_third_78 k56 n v0 v1 v2 v3 v4 v5 v6 (v7 + (1)) h) else (some (((((v7 + ((v7 + v5) - (v7 + v5) / v4 * v4)) + ((v7 + v6) - (v7 + v6) / v4 * v4)) - v1) - v2, h))))) else (if ((v7 + v5) - (v7 + v5) / v4 * v4) = v2 then (if (1 : Int32) = 0 then (f_X7_third_78 k56 n v0 v1 v2 v3 v4 v5 v6 (v7 + (1)) h) else (if (1 : Int32) = 0 then (f_X7_third_78 k56 n v0 v1 v2 v3 v4 v5 v6 (v7 + (1)) h) else (some (((((v7 + ((v7 + v5) - (v7 + v5) / v4 * v4)) + ((v7 + v6) - (v7 + v6) / v4 * v4)) - v1) - v2, h))))) else (if ((v7 + v6) - (v7 + v6) / v4 * v4) = v2 then (if (1 : Int32) = 0 then (f_X7_third_78 k56 n v0 v1 v2 v3 v4 v5 v6 (v7 + (1)) h) else (if (1 : Int32) = 0 then (f_X7_third_78 k56 n v0 v1 v2 v3 v4 v5 v6 (v7 + (1)) h) else (some (((((v7 + ((v7 + v5) - (v7 + v5) / v4 * v4)) + ((v7 + v6) - (v7 + v6) / v4 * v4)) - v1) - v2, h))))) else (if (1 : Int32) = 0 then (f_X7_third_78 k56 n v0 v1 v2 v3 v4 v5 v6 (v7 + (1)) h) else (if (0 : Int32) = 0 then (f_X7_third_78 k56 n v0 v1 v2 v3 v4 v5 v6 (v7 + (1)) h) else (some (((((v7 + ((v7 + v5) - (v7 + v5) / v4 * v4)) + ((v7 + v6) - (v7 + v6) / v4 * v4)) - v1) - v2, h)))))))) else (if ((v7 + v6) - (v7 + v6) / v4 * v4) = v1 then (if v7 = v2 then (if (1 : Int32) = 0 then (f_X7_third_78 k56 n v0 v1 v2 v3 v4 v5 v6 (v7 + (1)) h) else (if (1 : Int32) = 0 then (f_X7_third_78 k56 n v0 v1 v2 v3 v4 v5 v6 (v7 + (1)) h) else (some (((((v7 + ((v7 + v5) - (v7 + v5) / v4 * v4)) + ((v7 + v6) - (v7 + v6) / v4 * v4)) - v1) - v2, h))))) else (if ((v7 + v5) - (v7 + v5) / v4 * v4) = v2 then (if (1 : Int32) = 0 then (f_X7_third_78 k56 n v0 v1 v2 v3 v4 v5 v6 (v7 + (1)) h) else (if (1 : Int32) = 0 then (f_X7_third_78 k56 n v0 v1 v2 v3 v4 v5 v6 (v7 + (1)) h) else (some (((((v7 + ((v7 + v5) - (v7 + v5) / v4 * v4)) + ((v7 + v6) - (v7 + v6) / v4 * v4)) - v1) - v2, h))))) else (if ((v7 + v6) - (v7 + v6) / v4 * v4) = v2 then (if (1 : Int32) = 0 then (f_X7_third_78 k56 n v0 v1 v2 v3 v4 v5 v6 (v7 + (1)) h) else (if (1 : Int32) = 0 then (f_X7_third_78 k56 n v0 v1 v2 v3 v4 v5 v6 (v7 + (1)) h) else (some (((((v7 + ((v7 + v5) - (v7 + v5) / v4 * v4)) + ((v7 + v6) - (v7 + v6) / v4 * v4)) - v1) - v2, h))))) else (if (1 : Int32) = 0 then (f_X7_third_78 k56 n v0 v1 v2 v3 v4 v5 v6 (v7 + (1)) h) else (if (0 : Int32) = 0 then (f_X7_third_78 k56 n v0 v1 v2 v3 v4 v5 v6 (v7 + (1)) h) else (some (((((v7 + ((v7 + v5) - (v7 + v5) / v4 * v4)) + ((v7 + v6) - (v7 + v6) / v4 * v4)) - v1) - v2, h)))))))) else (if v7 = v2 then (if (0 : Int32) = 0 then (f_X7_third_78 k56 n v0 v1 v2 v3 v4 v5 v6 (v7 + (1)) h) else (if (1 : Int32) = 0 then (f_X7_third_78 k56 n v0 v1 v2 v3 v4 v5 v6 (v7 + (1)) h) else (some (((((v7 + ((v7 + v5) - (v7 + v5) / v4 * v4)) + ((v7 + v6) - (v7 + v6) / v4 * v4)) - v1) - v2, h))))) else (if ((v7 + v5) - (v7 + v5) / v4 * v4) = v2 then (if (0 : Int32) = 0 then (f_X7_third_78 k56 n v0 v1 v2 v3 v4 v5 v6 (v7 + (1)) h) else (if (1 : Int32) = 0 then (f_X7_third_78 k56 n v0 v1 v2 v3 v4 v5 v6 (v7 + (1)) h) else (some (((((v7 + ((v7 + v5) - (v7 + v5) / v4 * v4)) + ((v7 + v6) - (v7 + v6) / v4 * v4)) - v1) - v2, h))))) else (if ((v7 + v6) - (v7 + v6) / v4 * v4) = v2 then (if (0 : Int32) = 0 then (f_X7_third_78 k56 n v0 v1 v2 v3 v4 v5 v6 (v7 + (1)) h) else (if (1 : Int32) = 0 then (f_X7_third_78 k56 n v0 v1 v2 v3 v4 v5 v6 (v7 + (1)) h) else (some (((((v7 + ((v7 + v5) - (v7 + v5) / v4 * v4)) + ((v7 + v6) - (v7 + v6) / v4 * v4)) - v1) - v2, h))))) else (if (0 : Int32) = 0 then (f_X7_third_78 k56 n v0 v1 v2 v3 v4 v5 v6 (v7 + (1)) h) else (if (0 : Int32) = 0 then (f_X7_third_78 k56 n v0 v1 v2 v3 v4 v5 v6 (v7 + (1)) h) else (some (((((v7 + ((v7 + v5) - (v7 + v5) / v4 * v4)) + ((v7 + v6) - (v7 + v6) / v4 * v4)) - v1) - v2, h)))))))))))
set_option maxHeartbeats 4000000 in
set_option maxRecDepth 100000 in
theorem w_X7_third_78 {g : GT} {l : Launch} {r : (Int32 × Hp)} {k56} (hk56 : ∀ v0 v1 v2 v3 v4 v5 h, k56 v0 v1 v2 v3 v4 v5 h = some r → PW g l m_X7_third 3 0 0 56 [some (.ref v0), some (.int v1), some (.int v2), some (.int v3), some (.int v4), some (.int v5), none, none, none, none, none, none] [] h (fun r9 h9 => r9 = some (.int r.1) ∧ h9 = r.2)) : ∀ (n : Nat) (v0 : Nat) (v1 : Int32) (v2 : Int32) (v3 : Int32) (v4 : Int32) (v5 : Int32) (v6 : Int32) (v7 : Int32) (h : Hp), f_X7_third_78 k56 n v0 v1 v2 v3 v4 v5 v6 v7 h = some r → PW g l m_X7_third 3 0 0 78 [some (.ref v0), some (.int v1), some (.int v2), some (.int v3), some (.int v4), some (.int v5), some (.int v6), some (.int v7), none, none, none, none] [] h (fun r9 h9 => r9 = some (.int r.1) ∧ h9 = r.2) := by
  intro n
  induction n with
  | zero => intro v0 v1 v2 v3 v4 v5 v6 v7 h hf; cases hf
  | succ n ih =>
    intro v0 v1 v2 v3 v4 v5 v6 v7 h hf
    rw [f_X7_third_78] at hf
    refine pw_iload dX7_third_78 rfl ?_
    refine pw_iload dX7_third_80 rfl ?_
    refine q_icmp_ge (tgt := 184) hf dX7_third_82 (by decide) (fun hf _ => ?_) (fun hf _ => ?_)
    · refine pw_iinc (v := v5 + (1)) dX7_third_184 rfl rfl (by decide) rfl ?_
      dsimp only [lset, lset2, clr]
      refine pw_goto (tgt := 56) dX7_third_187 (by decide) ?_
      exact pw_lo (lle_s rfl (lle_s rfl (lle_s rfl (lle_s rfl (lle_s rfl (lle_s rfl (lle_n (lle_n (lle_n (lle_n (lle_n (lle_n lle_0)))))))))))) (hk56 _ _ _ _ _ _ _ hf)
    · refine pw_iload dX7_third_85 rfl ?_
      refine pw_iload dX7_third_87 rfl ?_
      refine pw_iadd dX7_third_89 ?_
      refine pw_iload dX7_third_90 rfl ?_
      refine q_irem hf dX7_third_92 (fun hf => ?_)
      refine pw_istore dX7_third_93 (by decide) rfl ?_
      dsimp only [lset, lset2, clr]
      refine pw_iload dX7_third_95 rfl ?_
      refine pw_iload dX7_third_97 rfl ?_
      refine pw_iadd dX7_third_99 ?_
      refine pw_iload dX7_third_100 rfl ?_
      refine q_irem hf dX7_third_102 (fun hf => ?_)
      refine pw_istore dX7_third_103 (by decide) rfl ?_
      dsimp only [lset, lset2, clr]
      refine pw_iload dX7_third_105 rfl ?_
      refine pw_iload_n dX7_third_107 rfl ?_
      refine q_icmp_eq (tgt := 123) hf dX7_third_108 (by decide) (fun hf _ => ?_) (fun hf _ => ?_)
      · refine pw_iconst (v := (1)) dX7_third_123 (by decide) ?_
        refine pw_goto (tgt := 128) dX7_third_124 (by decide) ?_
        refine pw_istore dX7_third_128 (by decide) rfl ?_
        dsimp only [lset, lset2, clr]
        refine pw_iload dX7_third_130 rfl ?_
        refine pw_iload_n dX7_third_132 rfl ?_
        refine q_icmp_eq (tgt := 148) hf dX7_third_133 (by decide) (fun hf _ => ?_) (fun hf _ => ?_)
        · refine pw_iconst (v := (1)) dX7_third_148 (by decide) ?_
          refine pw_goto (tgt := 153) dX7_third_149 (by decide) ?_
          refine pw_istore dX7_third_153 (by decide) rfl ?_
          dsimp only [lset, lset2, clr]
          refine pw_iload dX7_third_155 rfl ?_
          refine q_if_eq (tgt := 178) hf dX7_third_157 (by decide) (fun hf _ => ?_) (fun hf _ => ?_)
          · refine pw_iinc (v := v7 + (1)) dX7_third_178 rfl rfl (by decide) rfl ?_
            dsimp only [lset, lset2, clr]
            refine pw_goto (tgt := 78) dX7_third_181 (by decide) ?_
            exact pw_lo (lle_s rfl (lle_s rfl (lle_s rfl (lle_s rfl (lle_s rfl (lle_s rfl (lle_s rfl (lle_s rfl (lle_n (lle_n (lle_n (lle_n lle_0)))))))))))) (ih _ _ _ _ _ _ _ _ _ hf)
          · refine pw_iload dX7_third_160 rfl ?_
            refine q_if_eq (tgt := 178) hf dX7_third_162 (by decide) (fun hf _ => ?_) (fun hf _ => ?_)
            · refine pw_iinc (v := v7 + (1)) dX7_third_178 rfl rfl (by decide) rfl ?_
              dsimp only [lset, lset2, clr]
              refine pw_goto (tgt := 78) dX7_third_181 (by decide) ?_
              exact pw_lo (lle_s rfl (lle_s rfl (lle_s rfl (lle_s rfl (lle_s rfl (lle_s rfl (lle_s rfl (lle_s rfl (lle_n (lle_n (lle_n (lle_n lle_0)))))))))))) (ih _ _ _ _ _ _ _ _ _ hf)
            · refine pw_iload dX7_third_165 rfl ?_
              refine pw_iload dX7_third_167 rfl ?_
              refine pw_iadd dX7_third_169 ?_
              refine pw_iload dX7_third_170 rfl ?_
              refine pw_iadd dX7_third_172 ?_
              refine pw_iload_n dX7_third_173 rfl ?_
              refine pw_isub dX7_third_174 ?_
              refine pw_iload_n dX7_third_175 rfl ?_
              refine pw_isub dX7_third_176 ?_
              exact pw_iret (x := (((v7 + ((v7 + v5) - (v7 + v5) / v4 * v4)) + ((v7 + v6) - (v7 + v6) / v4 * v4)) - v1) - v2) rfl rfl dX7_third_177 (ret_iw hf)
        · refine pw_iload dX7_third_136 rfl ?_
          refine pw_iload_n dX7_third_138 rfl ?_
          refine q_icmp_eq (tgt := 148) hf dX7_third_139 (by decide) (fun hf _ => ?_) (fun hf _ => ?_)
          · refine pw_iconst (v := (1)) dX7_third_148 (by decide) ?_
            refine pw_goto (tgt := 153) dX7_third_149 (by decide) ?_
            refine pw_istore dX7_third_153 (by decide) rfl ?_
            dsimp only [lset, lset2, clr]
            refine pw_iload dX7_third_155 rfl ?_
            refine q_if_eq (tgt := 178) hf dX7_third_157 (by decide) (fun hf _ => ?_) (fun hf _ => ?_)
            · refine pw_iinc (v := v7 + (1)) dX7_third_178 rfl rfl (by decide) rfl ?_
              dsimp only [lset, lset2, clr]
              refine pw_goto (tgt := 78) dX7_third_181 (by decide) ?_
              exact pw_lo (lle_s rfl (lle_s rfl (lle_s rfl (lle_s rfl (lle_s rfl (lle_s rfl (lle_s rfl (lle_s rfl (lle_n (lle_n (lle_n (lle_n lle_0)))))))))))) (ih _ _ _ _ _ _ _ _ _ hf)
            · refine pw_iload dX7_third_160 rfl ?_
              refine q_if_eq (tgt := 178) hf dX7_third_162 (by decide) (fun hf _ => ?_) (fun hf _ => ?_)
              · refine pw_iinc (v := v7 + (1)) dX7_third_178 rfl rfl (by decide) rfl ?_
                dsimp only [lset, lset2, clr]
                refine pw_goto (tgt := 78) dX7_third_181 (by decide) ?_
                exact pw_lo (lle_s rfl (lle_s rfl (lle_s rfl (lle_s rfl (lle_s rfl (lle_s rfl (lle_s rfl (lle_s rfl (lle_n (lle_n (lle_n (lle_n lle_0)))))))))))) (ih _ _ _ _ _ _ _ _ _ hf)
              · refine pw_iload dX7_third_165 rfl ?_
                refine pw_iload dX7_third_167 rfl ?_
                refine pw_iadd dX7_third_169 ?_
                refine pw_iload dX7_third_170 rfl ?_
                refine pw_iadd dX7_third_172 ?_
                refine pw_iload_n dX7_third_173 rfl ?_
                refine pw_isub dX7_third_174 ?_
                refine pw_iload_n dX7_third_175 rfl ?_
                refine pw_isub dX7_third_176 ?_
                exact pw_iret (x := (((v7 + ((v7 + v5) - (v7 + v5) / v4 * v4)) + ((v7 + v6) - (v7 + v6) / v4 * v4)) - v1) - v2) rfl rfl dX7_third_177 (ret_iw hf)
          · refine pw_iload dX7_third_142 rfl ?_
            refine pw_iload_n dX7_third_144 rfl ?_
            refine q_icmp_ne (tgt := 152) hf dX7_third_145 (by decide) (fun hf _ => ?_) (fun hf _ => ?_)
            · refine pw_iconst (v := (0)) dX7_third_152 (by decide) ?_
              refine pw_istore dX7_third_153 (by decide) rfl ?_
              dsimp only [lset, lset2, clr]
              refine pw_iload dX7_third_155 rfl ?_
              refine q_if_eq (tgt := 178) hf dX7_third_157 (by decide) (fun hf _ => ?_) (fun hf _ => ?_)
              · refine pw_iinc (v := v7 + (1)) dX7_third_178 rfl rfl (by decide) rfl ?_
                dsimp only [lset, lset2, clr]
                refine pw_goto (tgt := 78) dX7_third_181 (by decide) ?_
                exact pw_lo (lle_s rfl (lle_s rfl (lle_s rfl (lle_s rfl (lle_s rfl (lle_s rfl (lle_s rfl (lle_s rfl (lle_n (lle_n (lle_n (lle_n lle_0)))))))))))) (ih _ _ _ _ _ _ _ _ _ hf)
              · refine pw_iload dX7_third_160 rfl ?_
                refine q_if_eq (tgt := 178) hf dX7_third_162 (by decide) (fun hf _ => ?_) (fun hf _ => ?_)
                · refine pw_iinc (v := v7 + (1)) dX7_third_178 rfl rfl (by decide) rfl ?_
                  dsimp only [lset, lset2, clr]
                  refine pw_goto (tgt := 78) dX7_third_181 (by decide) ?_
                  exact pw_lo (lle_s rfl (lle_s rfl (lle_s rfl (lle_s rfl (lle_s rfl (lle_s rfl (lle_s rfl (lle_s rfl (lle_n (lle_n (lle_n (lle_n lle_0)))))))))))) (ih _ _ _ _ _ _ _ _ _ hf)
                · refine pw_iload dX7_third_165 rfl ?_
                  refine pw_iload dX7_third_167 rfl ?_
                  refine pw_iadd dX7_third_169 ?_
                  refine pw_iload dX7_third_170 rfl ?_
                  refine pw_iadd dX7_third_172 ?_
                  refine pw_iload_n dX7_third_173 rfl ?_
                  refine pw_isub dX7_third_174 ?_
                  refine pw_iload_n dX7_third_175 rfl ?_
                  refine pw_isub dX7_third_176 ?_
                  exact pw_iret (x := (((v7 + ((v7 + v5) - (v7 + v5) / v4 * v4)) + ((v7 + v6) - (v7 + v6) / v4 * v4)) - v1) - v2) rfl rfl dX7_third_177 (ret_iw hf)
            · refine pw_iconst (v := (1)) dX7_third_148 (by decide) ?_
              refine pw_goto (tgt := 153) dX7_third_149 (by decide) ?_
              refine pw_istore dX7_third_153 (by decide) rfl ?_
              dsimp only [lset, lset2, clr]
              refine pw_iload dX7_third_155 rfl ?_
              refine q_if_eq (tgt := 178) hf dX7_third_157 (by decide) (fun hf _ => ?_) (fun hf _ => ?_)
              · refine pw_iinc (v := v7 + (1)) dX7_third_178 rfl rfl (by decide) rfl ?_
                dsimp only [lset, lset2, clr]
                refine pw_goto (tgt := 78) dX7_third_181 (by decide) ?_
                exact pw_lo (lle_s rfl (lle_s rfl (lle_s rfl (lle_s rfl (lle_s rfl (lle_s rfl (lle_s rfl (lle_s rfl (lle_n (lle_n (lle_n (lle_n lle_0)))))))))))) (ih _ _ _ _ _ _ _ _ _ hf)
              · refine pw_iload dX7_third_160 rfl ?_
                refine q_if_eq (tgt := 178) hf dX7_third_162 (by decide) (fun hf _ => ?_) (fun hf _ => ?_)
                · refine pw_iinc (v := v7 + (1)) dX7_third_178 rfl rfl (by decide) rfl ?_
                  dsimp only [lset, lset2, clr]
                  refine pw_goto (tgt := 78) dX7_third_181 (by decide) ?_
                  exact pw_lo (lle_s rfl (lle_s rfl (lle_s rfl (lle_s rfl (lle_s rfl (lle_s rfl (lle_s rfl (lle_s rfl (lle_n (lle_n (lle_n (lle_n lle_0)))))))))))) (ih _ _ _ _ _ _ _ _ _ hf)
                · refine pw_iload dX7_third_165 rfl ?_
                  refine pw_iload dX7_third_167 rfl ?_
                  refine pw_iadd dX7_third_169 ?_
                  refine pw_iload dX7_third_170 rfl ?_
                  refine pw_iadd dX7_third_172 ?_
                  refine pw_iload_n dX7_third_173 rfl ?_
                  refine pw_isub dX7_third_174 ?_
                  refine pw_iload_n dX7_third_175 rfl ?_
                  refine pw_isub dX7_third_176 ?_
                  exact pw_iret (x := (((v7 + ((v7 + v5) - (v7 + v5) / v4 * v4)) + ((v7 + v6) - (v7 + v6) / v4 * v4)) - v1) - v2) rfl rfl dX7_third_177 (ret_iw hf)
      · refine pw_iload dX7_third_111 rfl ?_
        refine pw_iload_n dX7_third_113 rfl ?_
        refine q_icmp_eq (tgt := 123) hf dX7_third_114 (by decide) (fun hf _ => ?_) (fun hf _ => ?_)
        · refine pw_iconst (v := (1)) dX7_third_123 (by decide) ?_
          refine pw_goto (tgt := 128) dX7_third_124 (by decide) ?_
          refine pw_istore dX7_third_128 (by decide) rfl ?_
          dsimp only [lset, lset2, clr]
          refine pw_iload dX7_third_130 rfl ?_
          refine pw_iload_n dX7_third_132 rfl ?_
          refine q_icmp_eq (tgt := 148) hf dX7_third_133 (by decide) (fun hf _ => ?_) (fun hf _ => ?_)
          · refine pw_iconst (v := (1)) dX7_third_148 (by decide) ?_
            refine pw_goto (tgt := 153) dX7_third_149 (by decide) ?_
            refine pw_istore dX7_third_153 (by decide) rfl ?_
            dsimp only [lset, lset2, clr]
            refine pw_iload dX7_third_155 rfl ?_
            refine q_if_eq (tgt := 178) hf dX7_third_157 (by decide) (fun hf _ => ?_) (fun hf _ => ?_)
            · refine pw_iinc (v := v7 + (1)) dX7_third_178 rfl rfl (by decide) rfl ?_
              dsimp only [lset, lset2, clr]
              refine pw_goto (tgt := 78) dX7_third_181 (by decide) ?_
              exact pw_lo (lle_s rfl (lle_s rfl (lle_s rfl (lle_s rfl (lle_s rfl (lle_s rfl (lle_s rfl (lle_s rfl (lle_n (lle_n (lle_n (lle_n lle_0)))))))))))) (ih _ _ _ _ _ _ _ _ _ hf)
            · refine pw_iload dX7_third_160 rfl ?_
              refine q_if_eq (tgt := 178) hf dX7_third_162 (by decide) (fun hf _ => ?_) (fun hf _ => ?_)
              · refine pw_iinc (v := v7 + (1)) dX7_third_178 rfl rfl (by decide) rfl ?_
                dsimp only [lset, lset2, clr]
                refine pw_goto (tgt := 78) dX7_third_181 (by decide) ?_
                exact pw_lo (lle_s rfl (lle_s rfl (lle_s rfl (lle_s rfl (lle_s rfl (lle_s rfl (lle_s rfl (lle_s rfl (lle_n (lle_n (lle_n (lle_n lle_0)))))))))))) (ih _ _ _ _ _ _ _ _ _ hf)
              · refine pw_iload dX7_third_165 rfl ?_
                refine pw_iload dX7_third_167 rfl ?_
                refine pw_iadd dX7_third_169 ?_
                refine pw_iload dX7_third_170 rfl ?_
                refine pw_iadd dX7_third_172 ?_
                refine pw_iload_n dX7_third_173 rfl ?_
                refine pw_isub dX7_third_174 ?_
                refine pw_iload_n dX7_third_175 rfl ?_
                refine pw_isub dX7_third_176 ?_
                exact pw_iret (x := (((v7 + ((v7 + v5) - (v7 + v5) / v4 * v4)) + ((v7 + v6) - (v7 + v6) / v4 * v4)) - v1) - v2) rfl rfl dX7_third_177 (ret_iw hf)
          · refine pw_iload dX7_third_136 rfl ?_
            refine pw_iload_n dX7_third_138 rfl ?_
            refine q_icmp_eq (tgt := 148) hf dX7_third_139 (by decide) (fun hf _ => ?_) (fun hf _ => ?_)
            · refine pw_iconst (v := (1)) dX7_third_148 (by decide) ?_
              refine pw_goto (tgt := 153) dX7_third_149 (by decide) ?_
              refine pw_istore dX7_third_153 (by decide) rfl ?_
              dsimp only [lset, lset2, clr]
              refine pw_iload dX7_third_155 rfl ?_
              refine q_if_eq (tgt := 178) hf dX7_third_157 (by decide) (fun hf _ => ?_) (fun hf _ => ?_)
              · refine pw_iinc (v := v7 + (1)) dX7_third_178 rfl rfl (by decide) rfl ?_
                dsimp only [lset, lset2, clr]
                refine pw_goto (tgt := 78) dX7_third_181 (by decide) ?_
                exact pw_lo (lle_s rfl (lle_s rfl (lle_s rfl (lle_s rfl (lle_s rfl (lle_s rfl (lle_s rfl (lle_s rfl (lle_n (lle_n (lle_n (lle_n lle_0)))))))))))) (ih _ _ _ _ _ _ _ _ _ hf)
              · refine pw_iload dX7_third_160 rfl ?_
                refine q_if_eq (tgt := 178) hf dX7_third_162 (by decide) (fun hf _ => ?_) (fun hf _ => ?_)
                · refine pw_iinc (v := v7 + (1)) dX7_third_178 rfl rfl (by decide) rfl ?_
                  dsimp only [lset, lset2, clr]
                  refine pw_goto (tgt := 78) dX7_third_181 (by decide) ?_
                  exact pw_lo (lle_s rfl (lle_s rfl (lle_s rfl (lle_s rfl (lle_s rfl (lle_s rfl (lle_s rfl (lle_s rfl (lle_n (lle_n (lle_n (lle_n lle_0)))))))))))) (ih _ _ _ _ _ _ _ _ _ hf)
                · refine pw_iload dX7_third_165 rfl ?_
                  refine pw_iload dX7_third_167 rfl ?_
                  refine pw_iadd dX7_third_169 ?_
                  refine pw_iload dX7_third_170 rfl ?_
                  refine pw_iadd dX7_third_172 ?_
                  refine pw_iload_n dX7_third_173 rfl ?_
                  refine pw_isub dX7_third_174 ?_
                  refine pw_iload_n dX7_third_175 rfl ?_
                  refine pw_isub dX7_third_176 ?_
                  exact pw_iret (x := (((v7 + ((v7 + v5) - (v7 + v5) / v4 * v4)) + ((v7 + v6) - (v7 + v6) / v4 * v4)) - v1) - v2) rfl rfl dX7_third_177 (ret_iw hf)
            · refine pw_iload dX7_third_142 rfl ?_
              refine pw_iload_n dX7_third_144 rfl ?_
              refine q_icmp_ne (tgt := 152) hf dX7_third_145 (by decide) (fun hf _ => ?_) (fun hf _ => ?_)
              · refine pw_iconst (v := (0)) dX7_third_152 (by decide) ?_
                refine pw_istore dX7_third_153 (by decide) rfl ?_
                dsimp only [lset, lset2, clr]
                refine pw_iload dX7_third_155 rfl ?_
                refine q_if_eq (tgt := 178) hf dX7_third_157 (by decide) (fun hf _ => ?_) (fun hf _ => ?_)
                · refine pw_iinc (v := v7 + (1)) dX7_third_178 rfl rfl (by decide) rfl ?_
                  dsimp only [lset, lset2, clr]
                  refine pw_goto (tgt := 78) dX7_third_181 (by decide) ?_
                  exact pw_lo (lle_s rfl (lle_s rfl (lle_s rfl (lle_s rfl (lle_s rfl (lle_s rfl (lle_s rfl (lle_s rfl (lle_n (lle_n (lle_n (lle_n lle_0)))))))))))) (ih _ _ _ _ _ _ _ _ _ hf)
                · refine pw_iload dX7_third_160 rfl ?_
                  refine q_if_eq (tgt := 178) hf dX7_third_162 (by decide) (fun hf _ => ?_) (fun hf _ => ?_)
                  · refine pw_iinc (v := v7 + (1)) dX7_third_178 rfl rfl (by decide) rfl ?_
                    dsimp only [lset, lset2, clr]
                    refine pw_goto (tgt := 78) dX7_third_181 (by decide) ?_
                    exact pw_lo (lle_s rfl (lle_s rfl (lle_s rfl (lle_s rfl (lle_s rfl (lle_s rfl (lle_s rfl (lle_s rfl (lle_n (lle_n (lle_n (lle_n lle_0)))))))))))) (ih _ _ _ _ _ _ _ _ _ hf)
                  · refine pw_iload dX7_third_165 rfl ?_
                    refine pw_iload dX7_third_167 rfl ?_
                    refine pw_iadd dX7_third_169 ?_
                    refine pw_iload dX7_third_170 rfl ?_
                    refine pw_iadd dX7_third_172 ?_
                    refine pw_iload_n dX7_third_173 rfl ?_
                    refine pw_isub dX7_third_174 ?_
                    refine pw_iload_n dX7_third_175 rfl ?_
                    refine pw_isub dX7_third_176 ?_
                    exact pw_iret (x := (((v7 + ((v7 + v5) - (v7 + v5) / v4 * v4)) + ((v7 + v6) - (v7 + v6) / v4 * v4)) - v1) - v2) rfl rfl dX7_third_177 (ret_iw hf)
              · refine pw_iconst (v := (1)) dX7_third_148 (by decide) ?_
                refine pw_goto (tgt := 153) dX7_third_149 (by decide) ?_
                refine pw_istore dX7_third_153 (by decide) rfl ?_
                dsimp only [lset, lset2, clr]
                refine pw_iload dX7_third_155 rfl ?_
                refine q_if_eq (tgt := 178) hf dX7_third_157 (by decide) (fun hf _ => ?_) (fun hf _ => ?_)
                · refine pw_iinc (v := v7 + (1)) dX7_third_178 rfl rfl (by decide) rfl ?_
                  dsimp only [lset, lset2, clr]
                  refine pw_goto (tgt := 78) dX7_third_181 (by decide) ?_
                  exact pw_lo (lle_s rfl (lle_s rfl (lle_s rfl (lle_s rfl (lle_s rfl (lle_s rfl (lle_s rfl (lle_s rfl (lle_n (lle_n (lle_n (lle_n lle_0)))))))))))) (ih _ _ _ _ _ _ _ _ _ hf)
                · refine pw_iload dX7_third_160 rfl ?_
                  refine q_if_eq (tgt := 178) hf dX7_third_162 (by decide) (fun hf _ => ?_) (fun hf _ => ?_)
                  · refine pw_iinc (v := v7 + (1)) dX7_third_178 rfl rfl (by decide) rfl ?_
                    dsimp only [lset, lset2, clr]
                    refine pw_goto (tgt := 78) dX7_third_181 (by decide) ?_
                    exact pw_lo (lle_s rfl (lle_s rfl (lle_s rfl (lle_s rfl (lle_s rfl (lle_s rfl (lle_s rfl (lle_s rfl (lle_n (lle_n (lle_n (lle_n lle_0)))))))))))) (ih _ _ _ _ _ _ _ _ _ hf)
                  · refine pw_iload dX7_third_165 rfl ?_
                    refine pw_iload dX7_third_167 rfl ?_
                    refine pw_iadd dX7_third_169 ?_
                    refine pw_iload dX7_third_170 rfl ?_
                    refine pw_iadd dX7_third_172 ?_
                    refine pw_iload_n dX7_third_173 rfl ?_
                    refine pw_isub dX7_third_174 ?_
                    refine pw_iload_n dX7_third_175 rfl ?_
                    refine pw_isub dX7_third_176 ?_
                    exact pw_iret (x := (((v7 + ((v7 + v5) - (v7 + v5) / v4 * v4)) + ((v7 + v6) - (v7 + v6) / v4 * v4)) - v1) - v2) rfl rfl dX7_third_177 (ret_iw hf)
        · refine pw_iload dX7_third_117 rfl ?_
          refine pw_iload_n dX7_third_119 rfl ?_
          refine q_icmp_ne (tgt := 127) hf dX7_third_120 (by decide) (fun hf _ => ?_) (fun hf _ => ?_)
          · refine pw_iconst (v := (0)) dX7_third_127 (by decide) ?_
            refine pw_istore dX7_third_128 (by decide) rfl ?_
            dsimp only [lset, lset2, clr]
            refine pw_iload dX7_third_130 rfl ?_
            refine pw_iload_n dX7_third_132 rfl ?_
            refine q_icmp_eq (tgt := 148) hf dX7_third_133 (by decide) (fun hf _ => ?_) (fun hf _ => ?_)
            · refine pw_iconst (v := (1)) dX7_third_148 (by decide) ?_
              refine pw_goto (tgt := 153) dX7_third_149 (by decide) ?_
              refine pw_istore dX7_third_153 (by decide) rfl ?_
              dsimp only [lset, lset2, clr]
              refine pw_iload dX7_third_155 rfl ?_
              refine q_if_eq (tgt := 178) hf dX7_third_157 (by decide) (fun hf _ => ?_) (fun hf _ => ?_)
              · refine pw_iinc (v := v7 + (1)) dX7_third_178 rfl rfl (by decide) rfl ?_
                dsimp only [lset, lset2, clr]
                refine pw_goto (tgt := 78) dX7_third_181 (by decide) ?_
                exact pw_lo (lle_s rfl (lle_s rfl (lle_s rfl (lle_s rfl (lle_s rfl (lle_s rfl (lle_s rfl (lle_s rfl (lle_n (lle_n (lle_n (lle_n lle_0)))))))))))) (ih _ _ _ _ _ _ _ _ _ hf)
              · refine pw_iload dX7_third_160 rfl ?_
                refine q_if_eq (tgt := 178) hf dX7_third_162 (by decide) (fun hf _ => ?_) (fun hf _ => ?_)
                · refine pw_iinc (v := v7 + (1)) dX7_third_178 rfl rfl (by decide) rfl ?_
                  dsimp only [lset, lset2, clr]
                  refine pw_goto (tgt := 78) dX7_third_181 (by decide) ?_
                  exact pw_lo (lle_s rfl (lle_s rfl (lle_s rfl (lle_s rfl (lle_s rfl (lle_s rfl (lle_s rfl (lle_s rfl (lle_n (lle_n (lle_n (lle_n lle_0)))))))))))) (ih _ _ _ _ _ _ _ _ _ hf)
                · refine pw_iload dX7_third_165 rfl ?_
                  refine pw_iload dX7_third_167 rfl ?_
                  refine pw_iadd dX7_third_169 ?_
                  refine pw_iload dX7_third_170 rfl ?_
                  refine pw_iadd dX7_third_172 ?_
                  refine pw_iload_n dX7_third_173 rfl ?_
                  refine pw_isub dX7_third_174 ?_
                  refine pw_iload_n dX7_third_175 rfl ?_
                  refine pw_isub dX7_third_176 ?_
                  exact pw_iret (x := (((v7 + ((v7 + v5) - (v7 + v5) / v4 * v4)) + ((v7 + v6) - (v7 + v6) / v4 * v4)) - v1) - v2) rfl rfl dX7_third_177 (ret_iw hf)
            · refine pw_iload dX7_third_136 rfl ?_
              refine pw_iload_n dX7_third_138 rfl ?_
              refine q_icmp_eq (tgt := 148) hf dX7_third_139 (by decide) (fun hf _ => ?_) (fun hf _ => ?_)
              · refine pw_iconst (v := (1)) dX7_third_148 (by decide) ?_
                refine pw_goto (tgt := 153) dX7_third_149 (by decide) ?_
                refine pw_istore dX7_third_153 (by decide) rfl ?_
                dsimp only [lset, lset2, clr]
                refine pw_iload dX7_third_155 rfl ?_
                refine q_if_eq (tgt := 178) hf dX7_third_157 (by decide) (fun hf _ => ?_) (fun hf _ => ?_)
                · refine pw_iinc (v := v7 + (1)) dX7_third_178 rfl rfl (by decide) rfl ?_
                  dsimp only [lset, lset2, clr]
                  refine pw_goto (tgt := 78) dX7_third_181 (by decide) ?_
                  exact pw_lo (lle_s rfl (lle_s rfl (lle_s rfl (lle_s rfl (lle_s rfl (lle_s rfl (lle_s rfl (lle_s rfl (lle_n (lle_n (lle_n (lle_n lle_0)))))))))))) (ih _ _ _ _ _ _ _ _ _ hf)
                · refine pw_iload dX7_third_160 rfl ?_
                  refine q_if_eq (tgt := 178) hf dX7_third_162 (by decide) (fun hf _ => ?_) (fun hf _ => ?_)
                  · refine pw_iinc (v := v7 + (1)) dX7_third_178 rfl rfl (by decide) rfl ?_
                    dsimp only [lset, lset2, clr]
                    refine pw_goto (tgt := 78) dX7_third_181 (by decide) ?_
                    exact pw_lo (lle_s rfl (lle_s rfl (lle_s rfl (lle_s rfl (lle_s rfl (lle_s rfl (lle_s rfl (lle_s rfl (lle_n (lle_n (lle_n (lle_n lle_0)))))))))))) (ih _ _ _ _ _ _ _ _ _ hf)
                  · refine pw_iload dX7_third_165 rfl ?_
                    refine pw_iload dX7_third_167 rfl ?_
                    refine pw_iadd dX7_third_169 ?_
                    refine pw_iload dX7_third_170 rfl ?_
                    refine pw_iadd dX7_third_172 ?_
                    refine pw_iload_n dX7_third_173 rfl ?_
                    refine pw_isub dX7_third_174 ?_
                    refine pw_iload_n dX7_third_175 rfl ?_
                    refine pw_isub dX7_third_176 ?_
                    exact pw_iret (x := (((v7 + ((v7 + v5) - (v7 + v5) / v4 * v4)) + ((v7 + v6) - (v7 + v6) / v4 * v4)) - v1) - v2) rfl rfl dX7_third_177 (ret_iw hf)
              · refine pw_iload dX7_third_142 rfl ?_
                refine pw_iload_n dX7_third_144 rfl ?_
                refine q_icmp_ne (tgt := 152) hf dX7_third_145 (by decide) (fun hf _ => ?_) (fun hf _ => ?_)
                · refine pw_iconst (v := (0)) dX7_third_152 (by decide) ?_
                  refine pw_istore dX7_third_153 (by decide) rfl ?_
                  dsimp only [lset, lset2, clr]
                  refine pw_iload dX7_third_155 rfl ?_
                  refine q_if_eq (tgt := 178) hf dX7_third_157 (by decide) (fun hf _ => ?_) (fun hf _ => ?_)
                  · refine pw_iinc (v := v7 + (1)) dX7_third_178 rfl rfl (by decide) rfl ?_
                    dsimp only [lset, lset2, clr]
                    refine pw_goto (tgt := 78) dX7_third_181 (by decide) ?_
                    exact pw_lo (lle_s rfl (lle_s rfl (lle_s rfl (lle_s rfl (lle_s rfl (lle_s rfl (lle_s rfl (lle_s rfl (lle_n (lle_n (lle_n (lle_n lle_0)))))))))))) (ih _ _ _ _ _ _ _ _ _ hf)
                  · refine pw_iload dX7_third_160 rfl ?_
                    refine q_if_eq (tgt := 178) hf dX7_third_162 (by decide) (fun hf _ => ?_) (fun hf _ => ?_)
                    · refine pw_iinc (v := v7 + (1)) dX7_third_178 rfl rfl (by decide) rfl ?_
                      dsimp only [lset, lset2, clr]
                      refine pw_goto (tgt := 78) dX7_third_181 (by decide) ?_
                      exact pw_lo (lle_s rfl (lle_s rfl (lle_s rfl (lle_s rfl (lle_s rfl (lle_s rfl (lle_s rfl (lle_s rfl (lle_n (lle_n (lle_n (lle_n lle_0)))))))))))) (ih _ _ _ _ _ _ _ _ _ hf)
                    · refine pw_iload dX7_third_165 rfl ?_
                      refine pw_iload dX7_third_167 rfl ?_
                      refine pw_iadd dX7_third_169 ?_
                      refine pw_iload dX7_third_170 rfl ?_
                      refine pw_iadd dX7_third_172 ?_
                      refine pw_iload_n dX7_third_173 rfl ?_
                      refine pw_isub dX7_third_174 ?_
                      refine pw_iload_n dX7_third_175 rfl ?_
                      refine pw_isub dX7_third_176 ?_
                      exact pw_iret (x := (((v7 + ((v7 + v5) - (v7 + v5) / v4 * v4)) + ((v7 + v6) - (v7 + v6) / v4 * v4)) - v1) - v2) rfl rfl dX7_third_177 (ret_iw hf)
                · refine pw_iconst (v := (1)) dX7_third_148 (by decide) ?_
                  refine pw_goto (tgt := 153) dX7_third_149 (by decide) ?_
                  refine pw_istore dX7_third_153 (by decide) rfl ?_
                  dsimp only [lset, lset2, clr]
                  refine pw_iload dX7_third_155 rfl ?_
                  refine q_if_eq (tgt := 178) hf dX7_third_157 (by decide) (fun hf _ => ?_) (fun hf _ => ?_)
                  · refine pw_iinc (v := v7 + (1)) dX7_third_178 rfl rfl (by decide) rfl ?_
                    dsimp only [lset, lset2, clr]
                    refine pw_goto (tgt := 78) dX7_third_181 (by decide) ?_
                    exact pw_lo (lle_s rfl (lle_s rfl (lle_s rfl (lle_s rfl (lle_s rfl (lle_s rfl (lle_s rfl (lle_s rfl (lle_n (lle_n (lle_n (lle_n lle_0)))))))))))) (ih _ _ _ _ _ _ _ _ _ hf)
                  · refine pw_iload dX7_third_160 rfl ?_
                    refine q_if_eq (tgt := 178) hf dX7_third_162 (by decide) (fun hf _ => ?_) (fun hf _ => ?_)
                    · refine pw_iinc (v := v7 + (1)) dX7_third_178 rfl rfl (by decide) rfl ?_
                      dsimp only [lset, lset2, clr]
                      refine pw_goto (tgt := 78) dX7_third_181 (by decide) ?_
                      exact pw_lo (lle_s rfl (lle_s rfl (lle_s rfl (lle_s rfl (lle_s rfl (lle_s rfl (lle_s rfl (lle_s rfl (lle_n (lle_n (lle_n (lle_n lle_0)))))))))))) (ih _ _ _ _ _ _ _ _ _ hf)
                    · refine pw_iload dX7_third_165 rfl ?_
                      refine pw_iload dX7_third_167 rfl ?_
                      refine pw_iadd dX7_third_169 ?_
                      refine pw_iload dX7_third_170 rfl ?_
                      refine pw_iadd dX7_third_172 ?_
                      refine pw_iload_n dX7_third_173 rfl ?_
                      refine pw_isub dX7_third_174 ?_
                      refine pw_iload_n dX7_third_175 rfl ?_
                      refine pw_isub dX7_third_176 ?_
                      exact pw_iret (x := (((v7 + ((v7 + v5) - (v7 + v5) / v4 * v4)) + ((v7 + v6) - (v7 + v6) / v4 * v4)) - v1) - v2) rfl rfl dX7_third_177 (ret_iw hf)
          · refine pw_iconst (v := (1)) dX7_third_123 (by decide) ?_
            refine pw_goto (tgt := 128) dX7_third_124 (by decide) ?_
            refine pw_istore dX7_third_128 (by decide) rfl ?_
            dsimp only [lset, lset2, clr]
            refine pw_iload dX7_third_130 rfl ?_
            refine pw_iload_n dX7_third_132 rfl ?_
            refine q_icmp_eq (tgt := 148) hf dX7_third_133 (by decide) (fun hf _ => ?_) (fun hf _ => ?_)
            · refine pw_iconst (v := (1)) dX7_third_148 (by decide) ?_
              refine pw_goto (tgt := 153) dX7_third_149 (by decide) ?_
              refine pw_istore dX7_third_153 (by decide) rfl ?_
              dsimp only [lset, lset2, clr]
              refine pw_iload dX7_third_155 rfl ?_
              refine q_if_eq (tgt := 178) hf dX7_third_157 (by decide) (fun hf _ => ?_) (fun hf _ => ?_)
              · refine pw_iinc (v := v7 + (1)) dX7_third_178 rfl rfl (by decide) rfl ?_
                dsimp only [lset, lset2, clr]
                refine pw_goto (tgt := 78) dX7_third_181 (by decide) ?_
                exact pw_lo (lle_s rfl (lle_s rfl (lle_s rfl (lle_s rfl (lle_s rfl (lle_s rfl (lle_s rfl (lle_s rfl (lle_n (lle_n (lle_n (lle_n lle_0)))))))))))) (ih _ _ _ _ _ _ _ _ _ hf)
              · refine pw_iload dX7_third_160 rfl ?_
                refine q_if_eq (tgt := 178) hf dX7_third_162 (by decide) (fun hf _ => ?_) (fun hf _ => ?_)
                · refine pw_iinc (v := v7 + (1)) dX7_third_178 rfl rfl (by decide) rfl ?_
                  dsimp only [lset, lset2, clr]
                  refine pw_goto (tgt := 78) dX7_third_181 (by decide) ?_
                  exact pw_lo (lle_s rfl (lle_s rfl (lle_s rfl (lle_s rfl (lle_s rfl (lle_s rfl (lle_s rfl (lle_s rfl (lle_n (lle_n (lle_n (lle_n lle_0)))))))))))) (ih _ _ _ _ _ _ _ _ _ hf)
                · refine pw_iload dX7_third_165 rfl ?_
                  refine pw_iload dX7_third_167 rfl ?_
                  refine pw_iadd dX7_third_169 ?_
                  refine pw_iload dX7_third_170 rfl ?_
                  refine pw_iadd dX7_third_172 ?_
                  refine pw_iload_n dX7_third_173 rfl ?_
                  refine pw_isub dX7_third_174 ?_
                  refine pw_iload_n dX7_third_175 rfl ?_
                  refine pw_isub dX7_third_176 ?_
                  exact pw_iret (x := (((v7 + ((v7 + v5) - (v7 + v5) / v4 * v4)) + ((v7 + v6) - (v7 + v6) / v4 * v4)) - v1) - v2) rfl rfl dX7_third_177 (ret_iw hf)
            · refine pw_iload dX7_third_136 rfl ?_
              refine pw_iload_n dX7_third_138 rfl ?_
              refine q_icmp_eq (tgt := 148) hf dX7_third_139 (by decide) (fun hf _ => ?_) (fun hf _ => ?_)
              · refine pw_iconst (v := (1)) dX7_third_148 (by decide) ?_
                refine pw_goto (tgt := 153) dX7_third_149 (by decide) ?_
                refine pw_istore dX7_third_153 (by decide) rfl ?_
                dsimp only [lset, lset2, clr]
                refine pw_iload dX7_third_155 rfl ?_
                refine q_if_eq (tgt := 178) hf dX7_third_157 (by decide) (fun hf _ => ?_) (fun hf _ => ?_)
                · refine pw_iinc (v := v7 + (1)) dX7_third_178 rfl rfl (by decide) rfl ?_
                  dsimp only [lset, lset2, clr]
                  refine pw_goto (tgt := 78) dX7_third_181 (by decide) ?_
                  exact pw_lo (lle_s rfl (lle_s rfl (lle_s rfl (lle_s rfl (lle_s rfl (lle_s rfl (lle_s rfl (lle_s rfl (lle_n (lle_n (lle_n (lle_n lle_0)))))))))))) (ih _ _ _ _ _ _ _ _ _ hf)
                · refine pw_iload dX7_third_160 rfl ?_
                  refine q_if_eq (tgt := 178) hf dX7_third_162 (by decide) (fun hf _ => ?_) (fun hf _ => ?_)
                  · refine pw_iinc (v := v7 + (1)) dX7_third_178 rfl rfl (by decide) rfl ?_
                    dsimp only [lset, lset2, clr]
                    refine pw_goto (tgt := 78) dX7_third_181 (by decide) ?_
                    exact pw_lo (lle_s rfl (lle_s rfl (lle_s rfl (lle_s rfl (lle_s rfl (lle_s rfl (lle_s rfl (lle_s rfl (lle_n (lle_n (lle_n (lle_n lle_0)))))))))))) (ih _ _ _ _ _ _ _ _ _ hf)
                  · refine pw_iload dX7_third_165 rfl ?_
                    refine pw_iload dX7_third_167 rfl ?_
                    refine pw_iadd dX7_third_169 ?_
                    refine pw_iload dX7_third_170 rfl ?_
                    refine pw_iadd dX7_third_172 ?_
                    refine pw_iload_n dX7_third_173 rfl ?_
                    refine pw_isub dX7_third_174 ?_
                    refine pw_iload_n dX7_third_175 rfl ?_
                    refine pw_isub dX7_third_176 ?_
                    exact pw_iret (x := (((v7 + ((v7 + v5) - (v7 + v5) / v4 * v4)) + ((v7 + v6) - (v7 + v6) / v4 * v4)) - v1) - v2) rfl rfl dX7_third_177 (ret_iw hf)
              · refine pw_iload dX7_third_142 rfl ?_
                refine pw_iload_n dX7_third_144 rfl ?_
                refine q_icmp_ne (tgt := 152) hf dX7_third_145 (by decide) (fun hf _ => ?_) (fun hf _ => ?_)
                · refine pw_iconst (v := (0)) dX7_third_152 (by decide) ?_
                  refine pw_istore dX7_third_153 (by decide) rfl ?_
                  dsimp only [lset, lset2, clr]
                  refine pw_iload dX7_third_155 rfl ?_
                  refine q_if_eq (tgt := 178) hf dX7_third_157 (by decide) (fun hf _ => ?_) (fun hf _ => ?_)
                  · refine pw_iinc (v := v7 + (1)) dX7_third_178 rfl rfl (by decide) rfl ?_
                    dsimp only [lset, lset2, clr]
                    refine pw_goto (tgt := 78) dX7_third_181 (by decide) ?_
                    exact pw_lo (lle_s rfl (lle_s rfl (lle_s rfl (lle_s rfl (lle_s rfl (lle_s rfl (lle_s rfl (lle_s rfl (lle_n (lle_n (lle_n (lle_n lle_0)))))))))))) (ih _ _ _ _ _ _ _ _ _ hf)
                  · refine pw_iload dX7_third_160 rfl ?_
                    refine q_if_eq (tgt := 178) hf dX7_third_162 (by decide) (fun hf _ => ?_) (fun hf _ => ?_)
                    · refine pw_iinc (v := v7 + (1)) dX7_third_178 rfl rfl (by decide) rfl ?_
                      dsimp only [lset, lset2, clr]
                      refine pw_goto (tgt := 78) dX7_third_181 (by decide) ?_
                      exact pw_lo (lle_s rfl (lle_s rfl (lle_s rfl (lle_s rfl (lle_s rfl (lle_s rfl (lle_s rfl (lle_s rfl (lle_n (lle_n (lle_n (lle_n lle_0)))))))))))) (ih _ _ _ _ _ _ _ _ _ hf)
                    · refine pw_iload dX7_third_165 rfl ?_
                      refine pw_iload dX7_third_167 rfl ?_
                      refine pw_iadd dX7_third_169 ?_
                      refine pw_iload dX7_third_170 rfl ?_
                      refine pw_iadd dX7_third_172 ?_
                      refine pw_iload_n dX7_third_173 rfl ?_
                      refine pw_isub dX7_third_174 ?_
                      refine pw_iload_n dX7_third_175 rfl ?_
                      refine pw_isub dX7_third_176 ?_
                      exact pw_iret (x := (((v7 + ((v7 + v5) - (v7 + v5) / v4 * v4)) + ((v7 + v6) - (v7 + v6) / v4 * v4)) - v1) - v2) rfl rfl dX7_third_177 (ret_iw hf)
                · refine pw_iconst (v := (1)) dX7_third_148 (by decide) ?_
                  refine pw_goto (tgt := 153) dX7_third_149 (by decide) ?_
                  refine pw_istore dX7_third_153 (by decide) rfl ?_
                  dsimp only [lset, lset2, clr]
                  refine pw_iload dX7_third_155 rfl ?_
                  refine q_if_eq (tgt := 178) hf dX7_third_157 (by decide) (fun hf _ => ?_) (fun hf _ => ?_)
                  · refine pw_iinc (v := v7 + (1)) dX7_third_178 rfl rfl (by decide) rfl ?_
                    dsimp only [lset, lset2, clr]
                    refine pw_goto (tgt := 78) dX7_third_181 (by decide) ?_
                    exact pw_lo (lle_s rfl (lle_s rfl (lle_s rfl (lle_s rfl (lle_s rfl (lle_s rfl (lle_s rfl (lle_s rfl (lle_n (lle_n (lle_n (lle_n lle_0)))))))))))) (ih _ _ _ _ _ _ _ _ _ hf)
                  · refine pw_iload dX7_third_160 rfl ?_
                    refine q_if_eq (tgt := 178) hf dX7_third_162 (by decide) (fun hf _ => ?_) (fun hf _ => ?_)
                    · refine pw_iinc (v := v7 + (1)) dX7_third_178 rfl rfl (by decide) rfl ?_
                      dsimp only [lset, lset2, clr]
                      refine pw_goto (tgt := 78) dX7_third_181 (by decide) ?_
                      exact pw_lo (lle_s rfl (lle_s rfl (lle_s rfl (lle_s rfl (lle_s rfl (lle_s rfl (lle_s rfl (lle_s rfl (lle_n (lle_n (lle_n (lle_n lle_0)))))))))))) (ih _ _ _ _ _ _ _ _ _ hf)
                    · refine pw_iload dX7_third_165 rfl ?_
                      refine pw_iload dX7_third_167 rfl ?_
                      refine pw_iadd dX7_third_169 ?_
                      refine pw_iload dX7_third_170 rfl ?_
                      refine pw_iadd dX7_third_172 ?_
                      refine pw_iload_n dX7_third_173 rfl ?_
                      refine pw_isub dX7_third_174 ?_
                      refine pw_iload_n dX7_third_175 rfl ?_
                      refine pw_isub dX7_third_176 ?_
                      exact pw_iret (x := (((v7 + ((v7 + v5) - (v7 + v5) / v4 * v4)) + ((v7 + v6) - (v7 + v6) / v4 * v4)) - v1) - v2) rfl rfl dX7_third_177 (ret_iw hf)
def f_X7_third_56 : Nat → Nat → Int32 → Int32 → Int32 → Int32 → Int32 → Hp → Option (Int32 × Hp)
  | 0, _, _, _, _, _, _, _ => none
  | n + 1, v0, v1, v2, v3, v4, v5, h => if v3 < v5 then (some (((-1 : Int32), h))) else (if oK h v0 7 = true then (f_X7_firstOf h v0 v5).bind fun x1 => f_X7_third_78 (f_X7_third_56 n) 4096 v0 v1 v2 v3 v4 v5 ((v3 + x1) + v5) (0 : Int32) h else none)
set_option maxHeartbeats 4000000 in
set_option maxRecDepth 100000 in
theorem w_X7_third_56 {g : GT} {l : Launch} {r : (Int32 × Hp)} : ∀ (n : Nat) (v0 : Nat) (v1 : Int32) (v2 : Int32) (v3 : Int32) (v4 : Int32) (v5 : Int32) (h : Hp), f_X7_third_56 n v0 v1 v2 v3 v4 v5 h = some r → PW g l m_X7_third 3 0 0 56 [some (.ref v0), some (.int v1), some (.int v2), some (.int v3), some (.int v4), some (.int v5), none, none, none, none, none, none] [] h (fun r9 h9 => r9 = some (.int r.1) ∧ h9 = r.2) := by
  intro n
  induction n with
  | zero => intro v0 v1 v2 v3 v4 v5 h hf; cases hf
  | succ n ih =>
    intro v0 v1 v2 v3 v4 v5 h hf
    rw [f_X7_third_56] at hf
    refine pw_iload dX7_third_56 rfl ?_
    refine pw_iload_n dX7_third_58 rfl ?_
    refine q_icmp_gt (tgt := 190) hf dX7_third_59 (by decide) (fun hf _ => ?_) (fun hf _ => ?_)
    · refine pw_iconst (v := (-1)) dX7_third_190 (by decide) ?_
      exact pw_iret (x := (-1 : Int32)) rfl rfl dX7_third_191 (ret_iw hf)
    · refine pw_iload_n dX7_third_62 rfl ?_
      refine pw_aload_n dX7_third_63 rfl ?_
      refine pw_iload dX7_third_64 rfl ?_
      refine q_callV_i (kc2 := 0) (ks2 := 0) (as := [.int v5]) (rest := [.int v3]) hf (fun x9 e9 => t_X7_firstOf e9) gX7_third_X7_firstOf rfl hd9_X7_firstOf rfl rfl ⟨(by decide), by decide⟩ ⟨rfl, rfl⟩ (Nat.le_of_ble_eq_true rfl) dX7_third_66 rfl (fun x1 hf => ?_)
      refine pw_iadd dX7_third_69 ?_
      refine pw_iload dX7_third_70 rfl ?_
      refine pw_iadd dX7_third_72 ?_
      refine pw_istore dX7_third_73 (by decide) rfl ?_
      dsimp only [lset, lset2, clr]
      refine pw_iconst (v := (0)) dX7_third_75 (by decide) ?_
      refine pw_istore dX7_third_76 (by decide) rfl ?_
      dsimp only [lset, lset2, clr]
      exact pw_lo (lle_s rfl (lle_s rfl (lle_s rfl (lle_s rfl (lle_s rfl (lle_s rfl (lle_s rfl (lle_s rfl (lle_n (lle_n (lle_n (lle_n lle_0)))))))))))) (w_X7_third_78 ih 4096 _ _ _ _ _ _ _ _ _ hf)
def f_X7_third (h : Hp) (a0 : Nat) (a1 : Int32) (a2 : Int32) : Option (Int32 × Hp) := (pV h a0 7 0 (.int (0 : Int32))).bind fun h1 => if oK h1 a0 7 = true then (f_X7_orderOf h1 a0).bind fun x2 => if x2 = 0 then (some (((-1 : Int32), h1))) else ((f_X7_isIn h1 a1 (0 : Int32) ((((6 : Int32) * x2) + (1 : Int32)) - (1 : Int32))).bind fun x3 => if x3 = 0 then (some (((-1 : Int32), h1))) else ((f_X7_isIn h1 a2 (0 : Int32) ((((6 : Int32) * x2) + (1 : Int32)) - (1 : Int32))).bind fun x4 => if x4 = 0 then (some (((-1 : Int32), h1))) else (if a1 = a2 then (some (((-1 : Int32), h1))) else (f_X7_third_56 4096 a0 a1 a2 x2 (((6 : Int32) * x2) + (1 : Int32)) (1 : Int32) h1)))) else none
set_option maxHeartbeats 4000000 in
set_option maxRecDepth 100000 in
theorem t_X7_third {g : GT} {l : Launch} {h : Hp} {a0 : Nat} {a1 : Int32} {a2 : Int32} {r : (Int32 × Hp)} (hf : f_X7_third h a0 a1 a2 = some r) : PM g l 3 0 0 yX7_third wsX7_third [.ref a0, .int a1, .int a2] h (fun r9 h9 => r9 = some (.int r.1) ∧ h9 = r.2) := by
  refine pm_of (M := m_X7_third) (by decide) rfl rfl rfl (Nat.le_of_ble_eq_true rfl) (lo := [some (.ref a0), some (.int a1), some (.int a2), none, none, none, none, none, none, none, none, none]) rfl ?_
  rw [f_X7_third] at hf
  refine pw_aload_n dX7_third_0 rfl ?_
  refine pw_iconst (v := (0)) dX7_third_1 (by decide) ?_
  refine q_pV (ty := .int) hf tyX7 tyX7_ok nmX7 rfl (by decide) w9_X7_third_X7 (by decide +kernel) rfl (by decide +kernel) rfl rfl dX7_third_2 (fun h1 hf => ?_)
  refine pw_aload_n dX7_third_5 rfl ?_
  refine q_callV_i (kc2 := 0) (ks2 := 0) (as := []) (rest := []) hf (fun x9 e9 => t_X7_orderOf e9) gX7_third_X7_orderOf rfl hd9_X7_orderOf rfl rfl ⟨(by decide), by decide⟩ ⟨rfl, rfl⟩ (Nat.le_of_ble_eq_true rfl) dX7_third_6 rfl (fun x2 hf => ?_)
  refine pw_istore_n dX7_third_9 (by decide) rfl ?_
  dsimp only [lset, lset2, clr]
  refine pw_bipush (v := (6)) dX7_third_10 (by decide) ?_
  refine pw_iload_n dX7_third_12 rfl ?_
  refine pw_imul dX7_third_13 ?_
  refine pw_iconst (v := (1)) dX7_third_14 (by decide) ?_
  refine pw_iadd dX7_third_15 ?_
  refine pw_istore dX7_third_16 (by decide) rfl ?_
  dsimp only [lset, lset2, clr]
  refine pw_iload_n dX7_third_18 rfl ?_
  refine q_if_eq (tgt := 51) hf dX7_third_19 (by decide) (fun hf _ => ?_) (fun hf _ => ?_)
  · refine pw_iconst (v := (-1)) dX7_third_51 (by decide) ?_
    exact pw_iret (x := (-1 : Int32)) rfl rfl dX7_third_52 (ret_iw hf)
  · refine pw_iload_n dX7_third_22 rfl ?_
    refine pw_iconst (v := (0)) dX7_third_23 (by decide) ?_
    refine pw_iload dX7_third_24 rfl ?_
    refine pw_iconst (v := (1)) dX7_third_26 (by decide) ?_
    refine pw_isub dX7_third_27 ?_
    refine q_callS_i (kc2 := 0) (ks2 := 0) (as := [.int a1, .int (0 : Int32), .int ((((6 : Int32) * x2) + (1 : Int32)) - (1 : Int32))]) (rest := []) hf (fun x9 e9 => t_X7_isIn e9) gX7_third_X7_isIn rfl hd9_X7_isIn rfl ⟨(by decide), by decide⟩ ⟨rfl, rfl⟩ (Nat.le_of_ble_eq_true rfl) dX7_third_28 rfl (fun x3 hf => ?_)
    refine q_if_eq (tgt := 51) hf dX7_third_31 (by decide) (fun hf _ => ?_) (fun hf _ => ?_)
    · refine pw_iconst (v := (-1)) dX7_third_51 (by decide) ?_
      exact pw_iret (x := (-1 : Int32)) rfl rfl dX7_third_52 (ret_iw hf)
    · refine pw_iload_n dX7_third_34 rfl ?_
      refine pw_iconst (v := (0)) dX7_third_35 (by decide) ?_
      refine pw_iload dX7_third_36 rfl ?_
      refine pw_iconst (v := (1)) dX7_third_38 (by decide) ?_
      refine pw_isub dX7_third_39 ?_
      refine q_callS_i (kc2 := 0) (ks2 := 0) (as := [.int a2, .int (0 : Int32), .int ((((6 : Int32) * x2) + (1 : Int32)) - (1 : Int32))]) (rest := []) hf (fun x9 e9 => t_X7_isIn e9) gX7_third_X7_isIn rfl hd9_X7_isIn rfl ⟨(by decide), by decide⟩ ⟨rfl, rfl⟩ (Nat.le_of_ble_eq_true rfl) dX7_third_40 rfl (fun x4 hf => ?_)
      refine q_if_eq (tgt := 51) hf dX7_third_43 (by decide) (fun hf _ => ?_) (fun hf _ => ?_)
      · refine pw_iconst (v := (-1)) dX7_third_51 (by decide) ?_
        exact pw_iret (x := (-1 : Int32)) rfl rfl dX7_third_52 (ret_iw hf)
      · refine pw_iload_n dX7_third_46 rfl ?_
        refine pw_iload_n dX7_third_47 rfl ?_
        refine q_icmp_ne (tgt := 53) hf dX7_third_48 (by decide) (fun hf _ => ?_) (fun hf _ => ?_)
        · refine pw_iconst (v := (1)) dX7_third_53 (by decide) ?_
          refine pw_istore dX7_third_54 (by decide) rfl ?_
          dsimp only [lset, lset2, clr]
          exact pw_lo (lle_s rfl (lle_s rfl (lle_s rfl (lle_s rfl (lle_s rfl (lle_s rfl (lle_n (lle_n (lle_n (lle_n (lle_n (lle_n lle_0)))))))))))) (w_X7_third_56 4096 _ _ _ _ _ _ _ hf)
        · refine pw_iconst (v := (-1)) dX7_third_51 (by decide) ?_
          exact pw_iret (x := (-1 : Int32)) rfl rfl dX7_third_52 (ret_iw hf)
/-! X7_pinnedOnes -/
abbrev m_X7_pinnedOnes : MD := (cX7_pinnedOnes, RX7, "pinnedOnes", wsX7_pinnedOnes, 3, (some .int))
theorem w9_X7_pinnedOnes_X7 : ∀ w ∈ u_ws RX7 TX7 31, w ∈ wsX7_pinnedOnes := by decide +kernel
theorem hd9_X7_pinnedOnes : yX7_pinnedOnes.cls = RX7 ∧ yX7_pinnedOnes.cls ≠ "java/lang/invoke/MethodHandle" ∧ yX7_pinnedOnes.cls ≠ "java/lang/invoke/VarHandle" ∧ (parseMethodDescriptor yX7_pinnedOnes.desc).map (fun d => d.parameters.length) = some 0 := by decide +kernel
def f_X7_pinnedOnes_4 : Nat → Nat → Int32 → Int32 → Hp → Option Int32
  | 0, _, _, _, _ => none
  | n + 1, v0, v1, v2, h => if (15 : Int32) < v2 then (some (v1)) else ((gR h v0 7 11).bind fun x1 => (f_X7_isTold h x1 v2).bind fun x2 => if x2 = 0 then (f_X7_pinnedOnes_4 n v0 v1 (v2 + (1)) h) else ((gR h v0 7 11).bind fun x3 => (aI h 0 x3 ((3 : Int32) + v2)).bind fun x4 => if x4 ≤ 0 then (f_X7_pinnedOnes_4 n v0 v1 (v2 + (1)) h) else (f_X7_pinnedOnes_4 n v0 (v1 ||| ((1 : Int32) <<< ((v2 - (1 : Int32)) &&& 31))) (v2 + (1)) h)))
set_option maxHeartbeats 4000000 in
set_option maxRecDepth 100000 in
theorem w_X7_pinnedOnes_4 {g : GT} {l : Launch} {r : Int32} : ∀ (n : Nat) (v0 : Nat) (v1 : Int32) (v2 : Int32) (h : Hp), f_X7_pinnedOnes_4 n v0 v1 v2 h = some r → PW g l m_X7_pinnedOnes 3 0 0 4 [some (.ref v0), some (.int v1), some (.int v2)] [] h (fun r9 h9 => r9 = some (.int r) ∧ h9 = h) := by
  intro n
  induction n with
  | zero => intro v0 v1 v2 h hf; cases hf
  | succ n ih =>
    intro v0 v1 v2 h hf
    rw [f_X7_pinnedOnes_4] at hf
    refine pw_iload_n dX7_pinnedOnes_4 rfl ?_
    refine pw_bipush (v := (15)) dX7_pinnedOnes_5 (by decide) ?_
    refine q_icmp_gt (tgt := 46) hf dX7_pinnedOnes_7 (by decide) (fun hf _ => ?_) (fun hf _ => ?_)
    · refine pw_iload_n dX7_pinnedOnes_46 rfl ?_
      exact pw_iret (x := v1) rfl rfl dX7_pinnedOnes_47 ⟨congrArg (fun z => some (Value.int z)) (Option.some.inj hf), rfl⟩
    · refine pw_aload_n dX7_pinnedOnes_10 rfl ?_
      refine q_gR hf rfl (by decide) w9_X7_pinnedOnes_X7 (by decide +kernel) dX7_pinnedOnes_11 (fun x1 hf => ?_)
      refine pw_iload_n dX7_pinnedOnes_14 rfl ?_
      refine q_callS_i (kc2 := 0) (ks2 := 0) (as := [.ref x1, .int v2]) (rest := []) hf (fun x9 e9 => t_X7_isTold e9) gX7_pinnedOnes_X7_isTold rfl hd9_X7_isTold rfl ⟨(by decide), by decide⟩ ⟨rfl, rfl⟩ (Nat.le_of_ble_eq_true rfl) dX7_pinnedOnes_15 rfl (fun x2 hf => ?_)
      refine q_if_eq (tgt := 40) hf dX7_pinnedOnes_18 (by decide) (fun hf _ => ?_) (fun hf _ => ?_)
      · refine pw_iinc (v := v2 + (1)) dX7_pinnedOnes_40 rfl rfl (by decide) rfl ?_
        dsimp only [lset, lset2, clr]
        refine pw_goto (tgt := 4) dX7_pinnedOnes_43 (by decide) ?_
        exact pw_lo (lle_s rfl (lle_s rfl (lle_s rfl lle_0))) (ih _ _ _ _ hf)
      · refine pw_aload_n dX7_pinnedOnes_21 rfl ?_
        refine q_gR hf rfl (by decide) w9_X7_pinnedOnes_X7 (by decide +kernel) dX7_pinnedOnes_22 (fun x3 hf => ?_)
        refine pw_iconst (v := (3)) dX7_pinnedOnes_25 (by decide) ?_
        refine pw_iload_n dX7_pinnedOnes_26 rfl ?_
        refine pw_iadd dX7_pinnedOnes_27 ?_
        refine q_iald hf dX7_pinnedOnes_28 (fun x4 hf => ?_)
        refine q_if_le (tgt := 40) hf dX7_pinnedOnes_29 (by decide) (fun hf _ => ?_) (fun hf _ => ?_)
        · refine pw_iinc (v := v2 + (1)) dX7_pinnedOnes_40 rfl rfl (by decide) rfl ?_
          dsimp only [lset, lset2, clr]
          refine pw_goto (tgt := 4) dX7_pinnedOnes_43 (by decide) ?_
          exact pw_lo (lle_s rfl (lle_s rfl (lle_s rfl lle_0))) (ih _ _ _ _ hf)
        · refine pw_iload_n dX7_pinnedOnes_32 rfl ?_
          refine pw_iconst (v := (1)) dX7_pinnedOnes_33 (by decide) ?_
          refine pw_iload_n dX7_pinnedOnes_34 rfl ?_
          refine pw_iconst (v := (1)) dX7_pinnedOnes_35 (by decide) ?_
          refine pw_isub dX7_pinnedOnes_36 ?_
          refine pw_ishl dX7_pinnedOnes_37 ?_
          refine pw_ior dX7_pinnedOnes_38 ?_
          refine pw_istore_n dX7_pinnedOnes_39 (by decide) rfl ?_
          dsimp only [lset, lset2, clr]
          refine pw_iinc (v := v2 + (1)) dX7_pinnedOnes_40 rfl rfl (by decide) rfl ?_
          dsimp only [lset, lset2, clr]
          refine pw_goto (tgt := 4) dX7_pinnedOnes_43 (by decide) ?_
          exact pw_lo (lle_s rfl (lle_s rfl (lle_s rfl lle_0))) (ih _ _ _ _ hf)
def f_X7_pinnedOnes (h : Hp) (a0 : Nat) : Option Int32 := f_X7_pinnedOnes_4 4096 a0 (0 : Int32) (1 : Int32) h
set_option maxHeartbeats 4000000 in
set_option maxRecDepth 100000 in
theorem t_X7_pinnedOnes {g : GT} {l : Launch} {h : Hp} {a0 : Nat} {r : Int32} (hf : f_X7_pinnedOnes h a0 = some r) : PM g l 3 0 0 yX7_pinnedOnes wsX7_pinnedOnes [.ref a0] h (fun r9 h9 => r9 = some (.int r) ∧ h9 = h) := by
  refine pm_of (M := m_X7_pinnedOnes) (by decide) rfl rfl rfl (Nat.le_of_ble_eq_true rfl) (lo := [some (.ref a0), none, none]) rfl ?_
  rw [f_X7_pinnedOnes] at hf
  refine pw_iconst (v := (0)) dX7_pinnedOnes_0 (by decide) ?_
  refine pw_istore_n dX7_pinnedOnes_1 (by decide) rfl ?_
  dsimp only [lset, lset2, clr]
  refine pw_iconst (v := (1)) dX7_pinnedOnes_2 (by decide) ?_
  refine pw_istore_n dX7_pinnedOnes_3 (by decide) rfl ?_
  dsimp only [lset, lset2, clr]
  exact pw_lo (lle_s rfl (lle_s rfl (lle_s rfl lle_0))) (w_X7_pinnedOnes_4 4096 _ _ _ _ hf)
/-! X7_now -/
abbrev m_X7_now : MD := (cX7_now, RX7, "now", wsX7_now, 2, (some .int))
theorem w9_X7_now_X7 : ∀ w ∈ u_ws RX7 TX7 31, w ∈ wsX7_now := by decide +kernel
theorem hd9_X7_now : yX7_now.cls = RX7 ∧ yX7_now.cls ≠ "java/lang/invoke/MethodHandle" ∧ yX7_now.cls ≠ "java/lang/invoke/VarHandle" ∧ (parseMethodDescriptor yX7_now.desc).map (fun d => d.parameters.length) = some 1 := by decide +kernel
def f_X7_now (h : Hp) (a0 : Nat) (a1 : Int32) : Option (Int32 × Hp) := (pV h a0 7 0 (.int (0 : Int32))).bind fun h1 => if a1 = (0 : Int32) then ((gR h1 a0 7 11).bind fun x2 => (aI h1 0 x2 (0 : Int32)).bind fun x3 => some ((x3, h1))) else if a1 = (1 : Int32) then ((gR h1 a0 7 11).bind fun x4 => (aI h1 0 x4 (1 : Int32)).bind fun x5 => some ((x5, h1))) else if a1 = (2 : Int32) then ((gR h1 a0 7 11).bind fun x6 => (aI h1 0 x6 (2 : Int32)).bind fun x7 => some ((x7, h1))) else if a1 = (3 : Int32) then (if oK h1 a0 7 = true then (f_X7_pinnedOnes h1 a0).bind fun x8 => some ((x8, h1)) else none) else if a1 = (4 : Int32) then ((gR h1 a0 7 11).bind fun x9 => if oK h1 a0 7 = true then (f_X7_isEven h1 a0 x9).bind fun x10 => if x10 = 0 then (some (((0 : Int32), h1))) else (some (((1 : Int32), h1))) else none) else if a1 = (5 : Int32) then ((gI h1 a0 7 19).bind fun x11 => some ((x11, h1))) else if a1 = (6 : Int32) then ((gI h1 a0 7 2).bind fun x12 => some ((x12, h1))) else (some (((-1 : Int32), h1)))
set_option maxHeartbeats 4000000 in
set_option maxRecDepth 100000 in
theorem t_X7_now {g : GT} {l : Launch} {h : Hp} {a0 : Nat} {a1 : Int32} {r : (Int32 × Hp)} (hf : f_X7_now h a0 a1 = some r) : PM g l 4 0 0 yX7_now wsX7_now [.ref a0, .int a1] h (fun r9 h9 => r9 = some (.int r.1) ∧ h9 = r.2) := by
  refine pm_of (M := m_X7_now) (by decide) rfl rfl rfl (Nat.le_of_ble_eq_true rfl) (lo := [some (.ref a0), some (.int a1)]) rfl ?_
  rw [f_X7_now] at hf
  refine pw_aload_n dX7_now_0 rfl ?_
  refine pw_iconst (v := (0)) dX7_now_1 (by decide) ?_
  refine q_pV (ty := .int) hf tyX7 tyX7_ok nmX7 rfl (by decide) w9_X7_now_X7 (by decide +kernel) rfl (by decide +kernel) rfl rfl dX7_now_2 (fun h1 hf => ?_)
  refine pw_iload_n dX7_now_5 rfl ?_
  rcases ite2 hf with ⟨hc9, hf⟩ | ⟨hc9, hf⟩
  · refine pw_tableIn (off := 42) (tgt := 48) dX7_now_6 (by rw [hc9]; decide) (by rw [hc9]; decide) (by rw [hc9]; rfl) (by decide) ?_
    refine pw_aload_n dX7_now_48 rfl ?_
    refine q_gR hf rfl (by decide) w9_X7_now_X7 (by decide +kernel) dX7_now_49 (fun x2 hf => ?_)
    refine pw_iconst (v := (0)) dX7_now_52 (by decide) ?_
    refine q_iald hf dX7_now_53 (fun x3 hf => ?_)
    exact pw_iret (x := x3) rfl rfl dX7_now_54 (ret_iw hf)
  have hn0 := hc9
  rcases ite2 hf with ⟨hc9, hf⟩ | ⟨hc9, hf⟩
  · refine pw_tableIn (off := 49) (tgt := 55) dX7_now_6 (by rw [hc9]; decide) (by rw [hc9]; decide) (by rw [hc9]; rfl) (by decide) ?_
    refine pw_aload_n dX7_now_55 rfl ?_
    refine q_gR hf rfl (by decide) w9_X7_now_X7 (by decide +kernel) dX7_now_56 (fun x4 hf => ?_)
    refine pw_iconst (v := (1)) dX7_now_59 (by decide) ?_
    refine q_iald hf dX7_now_60 (fun x5 hf => ?_)
    exact pw_iret (x := x5) rfl rfl dX7_now_61 (ret_iw hf)
  have hn1 := hc9
  rcases ite2 hf with ⟨hc9, hf⟩ | ⟨hc9, hf⟩
  · refine pw_tableIn (off := 56) (tgt := 62) dX7_now_6 (by rw [hc9]; decide) (by rw [hc9]; decide) (by rw [hc9]; rfl) (by decide) ?_
    refine pw_aload_n dX7_now_62 rfl ?_
    refine q_gR hf rfl (by decide) w9_X7_now_X7 (by decide +kernel) dX7_now_63 (fun x6 hf => ?_)
    refine pw_iconst (v := (2)) dX7_now_66 (by decide) ?_
    refine q_iald hf dX7_now_67 (fun x7 hf => ?_)
    exact pw_iret (x := x7) rfl rfl dX7_now_68 (ret_iw hf)
  have hn2 := hc9
  rcases ite2 hf with ⟨hc9, hf⟩ | ⟨hc9, hf⟩
  · refine pw_tableIn (off := 63) (tgt := 69) dX7_now_6 (by rw [hc9]; decide) (by rw [hc9]; decide) (by rw [hc9]; rfl) (by decide) ?_
    refine pw_aload_n dX7_now_69 rfl ?_
    refine q_callV_i (kc2 := 0) (ks2 := 0) (as := []) (rest := []) hf (fun x9 e9 => t_X7_pinnedOnes e9) gX7_now_X7_pinnedOnes rfl hd9_X7_pinnedOnes rfl rfl ⟨(by decide), by decide⟩ ⟨rfl, rfl⟩ (Nat.le_of_ble_eq_true rfl) dX7_now_70 rfl (fun x8 hf => ?_)
    exact pw_iret (x := x8) rfl rfl dX7_now_73 (ret_iw hf)
  have hn3 := hc9
  rcases ite2 hf with ⟨hc9, hf⟩ | ⟨hc9, hf⟩
  · refine pw_tableIn (off := 68) (tgt := 74) dX7_now_6 (by rw [hc9]; decide) (by rw [hc9]; decide) (by rw [hc9]; rfl) (by decide) ?_
    refine pw_aload_n dX7_now_74 rfl ?_
    refine pw_aload_n dX7_now_75 rfl ?_
    refine q_gR hf rfl (by decide) w9_X7_now_X7 (by decide +kernel) dX7_now_76 (fun x9 hf => ?_)
    refine q_callV_i (kc2 := 0) (ks2 := 0) (as := [.ref x9]) (rest := []) hf (fun x9 e9 => t_X7_isEven e9) gX7_now_X7_isEven rfl hd9_X7_isEven rfl rfl ⟨(by decide), by decide⟩ ⟨rfl, rfl⟩ (Nat.le_of_ble_eq_true rfl) dX7_now_79 rfl (fun x10 hf => ?_)
    refine q_if_eq (tgt := 89) hf dX7_now_82 (by decide) (fun hf _ => ?_) (fun hf _ => ?_)
    · refine pw_iconst (v := (0)) dX7_now_89 (by decide) ?_
      exact pw_iret (x := (0 : Int32)) rfl rfl dX7_now_90 (ret_iw hf)
    · refine pw_iconst (v := (1)) dX7_now_85 (by decide) ?_
      refine pw_goto (tgt := 90) dX7_now_86 (by decide) ?_
      exact pw_iret (x := (1 : Int32)) rfl rfl dX7_now_90 (ret_iw hf)
  have hn4 := hc9
  rcases ite2 hf with ⟨hc9, hf⟩ | ⟨hc9, hf⟩
  · refine pw_tableIn (off := 85) (tgt := 91) dX7_now_6 (by rw [hc9]; decide) (by rw [hc9]; decide) (by rw [hc9]; rfl) (by decide) ?_
    refine pw_aload_n dX7_now_91 rfl ?_
    refine q_gI hf rfl (by decide) w9_X7_now_X7 (by decide +kernel) dX7_now_92 (fun x11 hf => ?_)
    exact pw_iret (x := x11) rfl rfl dX7_now_95 (ret_iw hf)
  have hn5 := hc9
  rcases ite2 hf with ⟨hc9, hf⟩ | ⟨hc9, hf⟩
  · refine pw_tableIn (off := 90) (tgt := 96) dX7_now_6 (by rw [hc9]; decide) (by rw [hc9]; decide) (by rw [hc9]; rfl) (by decide) ?_
    refine pw_aload_n dX7_now_96 rfl ?_
    refine q_gI hf rfl (by decide) w9_X7_now_X7 (by decide +kernel) dX7_now_97 (fun x12 hf => ?_)
    exact pw_iret (x := x12) rfl rfl dX7_now_100 (ret_iw hf)
  have hn6 := hc9
  refine pw_tableOut (tgt := 101) dX7_now_6 (tab_out7_0 hn0 hn1 hn2 hn3 hn4 hn5 hn6) (by decide) ?_
  refine pw_iconst (v := (-1)) dX7_now_101 (by decide) ?_
  exact pw_iret (x := (-1 : Int32)) rfl rfl dX7_now_102 (ret_iw hf)
/-! X7_pinned -/
abbrev m_X7_pinned : MD := (cX7_pinned, RX7, "pinned", wsX7_pinned, 2, (some .int))
theorem w9_X7_pinned_X7 : ∀ w ∈ u_ws RX7 TX7 31, w ∈ wsX7_pinned := by decide +kernel
theorem hd9_X7_pinned : yX7_pinned.cls = RX7 ∧ yX7_pinned.cls ≠ "java/lang/invoke/MethodHandle" ∧ yX7_pinned.cls ≠ "java/lang/invoke/VarHandle" ∧ (parseMethodDescriptor yX7_pinned.desc).map (fun d => d.parameters.length) = some 1 := by decide +kernel
def f_X7_pinned (h : Hp) (a0 : Nat) (a1 : Int32) : Option (Int32 × Hp) := (pV h a0 7 0 (.int (0 : Int32))).bind fun h1 => (gR h1 a0 7 11).bind fun x2 => (f_X7_isTold h1 x2 a1).bind fun x3 => if x3 = 0 then (some (((-1 : Int32), h1))) else ((gR h1 a0 7 11).bind fun x4 => (aI h1 0 x4 ((3 : Int32) + a1)).bind fun x5 => some ((x5, h1)))
set_option maxHeartbeats 4000000 in
set_option maxRecDepth 100000 in
theorem t_X7_pinned {g : GT} {l : Launch} {h : Hp} {a0 : Nat} {a1 : Int32} {r : (Int32 × Hp)} (hf : f_X7_pinned h a0 a1 = some r) : PM g l 3 0 0 yX7_pinned wsX7_pinned [.ref a0, .int a1] h (fun r9 h9 => r9 = some (.int r.1) ∧ h9 = r.2) := by
  refine pm_of (M := m_X7_pinned) (by decide) rfl rfl rfl (Nat.le_of_ble_eq_true rfl) (lo := [some (.ref a0), some (.int a1)]) rfl ?_
  rw [f_X7_pinned] at hf
  refine pw_aload_n dX7_pinned_0 rfl ?_
  refine pw_iconst (v := (0)) dX7_pinned_1 (by decide) ?_
  refine q_pV (ty := .int) hf tyX7 tyX7_ok nmX7 rfl (by decide) w9_X7_pinned_X7 (by decide +kernel) rfl (by decide +kernel) rfl rfl dX7_pinned_2 (fun h1 hf => ?_)
  refine pw_aload_n dX7_pinned_5 rfl ?_
  refine q_gR hf rfl (by decide) w9_X7_pinned_X7 (by decide +kernel) dX7_pinned_6 (fun x2 hf => ?_)
  refine pw_iload_n dX7_pinned_9 rfl ?_
  refine q_callS_i (kc2 := 0) (ks2 := 0) (as := [.ref x2, .int a1]) (rest := []) hf (fun x9 e9 => t_X7_isTold e9) gX7_pinned_X7_isTold rfl hd9_X7_isTold rfl ⟨(by decide), by decide⟩ ⟨rfl, rfl⟩ (Nat.le_of_ble_eq_true rfl) dX7_pinned_10 rfl (fun x3 hf => ?_)
  refine q_if_eq (tgt := 27) hf dX7_pinned_13 (by decide) (fun hf _ => ?_) (fun hf _ => ?_)
  · refine pw_iconst (v := (-1)) dX7_pinned_27 (by decide) ?_
    exact pw_iret (x := (-1 : Int32)) rfl rfl dX7_pinned_28 (ret_iw hf)
  · refine pw_aload_n dX7_pinned_16 rfl ?_
    refine q_gR hf rfl (by decide) w9_X7_pinned_X7 (by decide +kernel) dX7_pinned_17 (fun x4 hf => ?_)
    refine pw_iconst (v := (3)) dX7_pinned_20 (by decide) ?_
    refine pw_iload_n dX7_pinned_21 rfl ?_
    refine pw_iadd dX7_pinned_22 ?_
    refine q_iald hf dX7_pinned_23 (fun x5 hf => ?_)
    refine pw_goto (tgt := 28) dX7_pinned_24 (by decide) ?_
    exact pw_iret (x := x5) rfl rfl dX7_pinned_28 (ret_iw hf)
/-! X7_stay -/
abbrev m_X7_stay : MD := (cX7_stay, RX7, "stay", wsX7_stay, 1, none)
theorem w9_X7_stay_X7 : ∀ w ∈ u_ws RX7 TX7 31, w ∈ wsX7_stay := by decide +kernel
theorem hd9_X7_stay : yX7_stay.cls = RX7 ∧ yX7_stay.cls ≠ "java/lang/invoke/MethodHandle" ∧ yX7_stay.cls ≠ "java/lang/invoke/VarHandle" ∧ (parseMethodDescriptor yX7_stay.desc).map (fun d => d.parameters.length) = some 0 := by decide +kernel
def f_X7_stay (h : Hp) (a0 : Nat) : Option Hp := (gR h a0 7 11).bind fun x1 => (gR h a0 7 16).bind fun x2 => (f_X7_copy h x1 (0 : Int32) x2 (0 : Int32)).bind fun h3 => (gR h3 a0 7 15).bind fun x4 => (gR h3 a0 7 11).bind fun x5 => (f_X7_copy h3 x4 (0 : Int32) x5 (0 : Int32)).bind fun h6 => if oK h6 a0 7 = true then (f_X7_snap h6 a0).bind fun h7 => (gR h7 a0 7 16).bind fun x8 => (gR h7 a0 7 11).bind fun x9 => (f_X7_copy h7 x8 (0 : Int32) x9 (0 : Int32)).bind fun h10 => some h10 else none
set_option maxHeartbeats 4000000 in
set_option maxRecDepth 100000 in
theorem t_X7_stay {g : GT} {l : Launch} {h : Hp} {a0 : Nat} {r : Hp} (hf : f_X7_stay h a0 = some r) : PM g l 3 0 0 yX7_stay wsX7_stay [.ref a0] h (fun r9 h9 => r9 = none ∧ h9 = r) := by
  refine pm_of (M := m_X7_stay) (by decide) rfl rfl rfl (Nat.le_of_ble_eq_true rfl) (lo := [some (.ref a0)]) rfl ?_
  rw [f_X7_stay] at hf
  refine pw_aload_n dX7_stay_0 rfl ?_
  refine q_gR hf rfl (by decide) w9_X7_stay_X7 (by decide +kernel) dX7_stay_1 (fun x1 hf => ?_)
  refine pw_iconst (v := (0)) dX7_stay_4 (by decide) ?_
  refine pw_aload_n dX7_stay_5 rfl ?_
  refine q_gR hf rfl (by decide) w9_X7_stay_X7 (by decide +kernel) dX7_stay_6 (fun x2 hf => ?_)
  refine pw_iconst (v := (0)) dX7_stay_9 (by decide) ?_
  refine q_callS_v (kc2 := 0) (ks2 := 0) (as := [.ref x1, .int (0 : Int32), .ref x2, .int (0 : Int32)]) (rest := []) hf (fun x9 e9 => t_X7_copy e9) gX7_stay_X7_copy rfl hd9_X7_copy rfl ⟨(by decide), by decide⟩ ⟨rfl, rfl⟩ (Nat.le_of_ble_eq_true rfl) dX7_stay_10 rfl (fun h3 hf => ?_)
  refine pw_aload_n dX7_stay_13 rfl ?_
  refine q_gR hf rfl (by decide) w9_X7_stay_X7 (by decide +kernel) dX7_stay_14 (fun x4 hf => ?_)
  refine pw_iconst (v := (0)) dX7_stay_17 (by decide) ?_
  refine pw_aload_n dX7_stay_18 rfl ?_
  refine q_gR hf rfl (by decide) w9_X7_stay_X7 (by decide +kernel) dX7_stay_19 (fun x5 hf => ?_)
  refine pw_iconst (v := (0)) dX7_stay_22 (by decide) ?_
  refine q_callS_v (kc2 := 0) (ks2 := 0) (as := [.ref x4, .int (0 : Int32), .ref x5, .int (0 : Int32)]) (rest := []) hf (fun x9 e9 => t_X7_copy e9) gX7_stay_X7_copy rfl hd9_X7_copy rfl ⟨(by decide), by decide⟩ ⟨rfl, rfl⟩ (Nat.le_of_ble_eq_true rfl) dX7_stay_23 rfl (fun h6 hf => ?_)
  refine pw_aload_n dX7_stay_26 rfl ?_
  refine q_callV_v (kc2 := 0) (ks2 := 0) (as := []) (rest := []) hf (fun x9 e9 => t_X7_snap e9) gX7_stay_X7_snap rfl hd9_X7_snap rfl rfl ⟨(by decide), by decide⟩ ⟨rfl, rfl⟩ (Nat.le_of_ble_eq_true rfl) dX7_stay_27 rfl (fun h7 hf => ?_)
  refine pw_aload_n dX7_stay_30 rfl ?_
  refine q_gR hf rfl (by decide) w9_X7_stay_X7 (by decide +kernel) dX7_stay_31 (fun x8 hf => ?_)
  refine pw_iconst (v := (0)) dX7_stay_34 (by decide) ?_
  refine pw_aload_n dX7_stay_35 rfl ?_
  refine q_gR hf rfl (by decide) w9_X7_stay_X7 (by decide +kernel) dX7_stay_36 (fun x9 hf => ?_)
  refine pw_iconst (v := (0)) dX7_stay_39 (by decide) ?_
  refine q_callS_v (kc2 := 0) (ks2 := 0) (as := [.ref x8, .int (0 : Int32), .ref x9, .int (0 : Int32)]) (rest := []) hf (fun x9 e9 => t_X7_copy e9) gX7_stay_X7_copy rfl hd9_X7_copy rfl ⟨(by decide), by decide⟩ ⟨rfl, rfl⟩ (Nat.le_of_ble_eq_true rfl) dX7_stay_40 rfl (fun h10 hf => ?_)
  exact pw_vret rfl dX7_stay_43 ⟨rfl, Option.some.inj hf⟩
/-! X7_mayHole -/
abbrev m_X7_mayHole : MD := (cX7_mayHole, RX7, "mayHole", wsX7_mayHole, 3, (some .boolean))
theorem w9_X7_mayHole_X7 : ∀ w ∈ u_ws RX7 TX7 31, w ∈ wsX7_mayHole := by decide +kernel
theorem hd9_X7_mayHole : yX7_mayHole.cls = RX7 ∧ yX7_mayHole.cls ≠ "java/lang/invoke/MethodHandle" ∧ yX7_mayHole.cls ≠ "java/lang/invoke/VarHandle" ∧ (parseMethodDescriptor yX7_mayHole.desc).map (fun d => d.parameters.length) = some 2 := by decide +kernel
def f_X7_mayHole (h : Hp) (a0 : Nat) (a1 : Int32) (a2 : Int32) : Option Int32 := (gR h a0 7 11).bind fun x1 => (aI h 0 x1 (0 : Int32)).bind fun x2 => (f_X7_isIn h a1 (1 : Int32) x2).bind fun x3 => if x3 = 0 then (some ((0 : Int32))) else ((gR h a0 7 11).bind fun x4 => (aI h 0 x4 (1 : Int32)).bind fun x5 => (f_X7_has h x5 (a1 - (1 : Int32))).bind fun x6 => if x6 = a2 then (some ((0 : Int32))) else ((gR h a0 7 11).bind fun x7 => (f_X7_pins h x7 (0 : Int32)).bind fun x8 => (f_X7_has h x8 (a1 - (1 : Int32))).bind fun x9 => if x9 = 0 then (some ((1 : Int32))) else (some ((0 : Int32)))))
set_option maxHeartbeats 4000000 in
set_option maxRecDepth 100000 in
theorem t_X7_mayHole {g : GT} {l : Launch} {h : Hp} {a0 : Nat} {a1 : Int32} {a2 : Int32} {r : Int32} (hf : f_X7_mayHole h a0 a1 a2 = some r) : PM g l 4 0 0 yX7_mayHole wsX7_mayHole [.ref a0, .int a1, .int a2] h (fun r9 h9 => r9 = some (.int r) ∧ h9 = h) := by
  refine pm_of (M := m_X7_mayHole) (by decide) rfl rfl rfl (Nat.le_of_ble_eq_true rfl) (lo := [some (.ref a0), some (.int a1), some (.int a2)]) rfl ?_
  rw [f_X7_mayHole] at hf
  refine pw_iload_n dX7_mayHole_0 rfl ?_
  refine pw_iconst (v := (1)) dX7_mayHole_1 (by decide) ?_
  refine pw_aload_n dX7_mayHole_2 rfl ?_
  refine q_gR hf rfl (by decide) w9_X7_mayHole_X7 (by decide +kernel) dX7_mayHole_3 (fun x1 hf => ?_)
  refine pw_iconst (v := (0)) dX7_mayHole_6 (by decide) ?_
  refine q_iald hf dX7_mayHole_7 (fun x2 hf => ?_)
  refine q_callS_i (kc2 := 0) (ks2 := 0) (as := [.int a1, .int (1 : Int32), .int x2]) (rest := []) hf (fun x9 e9 => t_X7_isIn e9) gX7_mayHole_X7_isIn rfl hd9_X7_isIn rfl ⟨(by decide), by decide⟩ ⟨rfl, rfl⟩ (Nat.le_of_ble_eq_true rfl) dX7_mayHole_8 rfl (fun x3 hf => ?_)
  refine q_if_eq (tgt := 51) hf dX7_mayHole_11 (by decide) (fun hf _ => ?_) (fun hf _ => ?_)
  · refine pw_iconst (v := (0)) dX7_mayHole_51 (by decide) ?_
    exact pw_iret (x := (0 : Int32)) rfl rfl dX7_mayHole_52 ⟨congrArg (fun z => some (Value.int z)) (Option.some.inj hf), rfl⟩
  · refine pw_aload_n dX7_mayHole_14 rfl ?_
    refine q_gR hf rfl (by decide) w9_X7_mayHole_X7 (by decide +kernel) dX7_mayHole_15 (fun x4 hf => ?_)
    refine pw_iconst (v := (1)) dX7_mayHole_18 (by decide) ?_
    refine q_iald hf dX7_mayHole_19 (fun x5 hf => ?_)
    refine pw_iload_n dX7_mayHole_20 rfl ?_
    refine pw_iconst (v := (1)) dX7_mayHole_21 (by decide) ?_
    refine pw_isub dX7_mayHole_22 ?_
    refine q_callS_i (kc2 := 0) (ks2 := 0) (as := [.int x5, .int (a1 - (1 : Int32))]) (rest := []) hf (fun x9 e9 => t_X7_has e9) gX7_mayHole_X7_has rfl hd9_X7_has rfl ⟨(by decide), by decide⟩ ⟨rfl, rfl⟩ (Nat.le_of_ble_eq_true rfl) dX7_mayHole_23 rfl (fun x6 hf => ?_)
    refine pw_iload_n dX7_mayHole_26 rfl ?_
    refine q_icmp_eq (tgt := 51) hf dX7_mayHole_27 (by decide) (fun hf _ => ?_) (fun hf _ => ?_)
    · refine pw_iconst (v := (0)) dX7_mayHole_51 (by decide) ?_
      exact pw_iret (x := (0 : Int32)) rfl rfl dX7_mayHole_52 ⟨congrArg (fun z => some (Value.int z)) (Option.some.inj hf), rfl⟩
    · refine pw_aload_n dX7_mayHole_30 rfl ?_
      refine q_gR hf rfl (by decide) w9_X7_mayHole_X7 (by decide +kernel) dX7_mayHole_31 (fun x7 hf => ?_)
      refine pw_iconst (v := (0)) dX7_mayHole_34 (by decide) ?_
      refine q_callS_i (kc2 := 0) (ks2 := 0) (as := [.ref x7, .int (0 : Int32)]) (rest := []) hf (fun x9 e9 => t_X7_pins e9) gX7_mayHole_X7_pins rfl hd9_X7_pins rfl ⟨(by decide), by decide⟩ ⟨rfl, rfl⟩ (Nat.le_of_ble_eq_true rfl) dX7_mayHole_35 rfl (fun x8 hf => ?_)
      refine pw_iload_n dX7_mayHole_38 rfl ?_
      refine pw_iconst (v := (1)) dX7_mayHole_39 (by decide) ?_
      refine pw_isub dX7_mayHole_40 ?_
      refine q_callS_i (kc2 := 0) (ks2 := 0) (as := [.int x8, .int (a1 - (1 : Int32))]) (rest := []) hf (fun x9 e9 => t_X7_has e9) gX7_mayHole_X7_has rfl hd9_X7_has rfl ⟨(by decide), by decide⟩ ⟨rfl, rfl⟩ (Nat.le_of_ble_eq_true rfl) dX7_mayHole_41 rfl (fun x9 hf => ?_)
      refine q_if_ne (tgt := 51) hf dX7_mayHole_44 (by decide) (fun hf _ => ?_) (fun hf _ => ?_)
      · refine pw_iconst (v := (0)) dX7_mayHole_51 (by decide) ?_
        exact pw_iret (x := (0 : Int32)) rfl rfl dX7_mayHole_52 ⟨congrArg (fun z => some (Value.int z)) (Option.some.inj hf), rfl⟩
      · refine pw_iconst (v := (1)) dX7_mayHole_47 (by decide) ?_
        refine pw_goto (tgt := 52) dX7_mayHole_48 (by decide) ?_
        exact pw_iret (x := (1 : Int32)) rfl rfl dX7_mayHole_52 ⟨congrArg (fun z => some (Value.int z)) (Option.some.inj hf), rfl⟩
/-! X7_hole -/
abbrev m_X7_hole : MD := (cX7_hole, RX7, "hole", wsX7_hole, 3, (some .int))
theorem w9_X7_hole_X7 : ∀ w ∈ u_ws RX7 TX7 31, w ∈ wsX7_hole := by decide +kernel
theorem hd9_X7_hole : yX7_hole.cls = RX7 ∧ yX7_hole.cls ≠ "java/lang/invoke/MethodHandle" ∧ yX7_hole.cls ≠ "java/lang/invoke/VarHandle" ∧ (parseMethodDescriptor yX7_hole.desc).map (fun d => d.parameters.length) = some 2 := by decide +kernel
def f_X7_hole (h : Hp) (a0 : Nat) (a1 : Int32) (a2 : Int32) : Option (Int32 × Hp) := (pV h a0 7 0 (.int (0 : Int32))).bind fun h1 => if oK h1 a0 7 = true then (f_X7_mayHole h1 a0 a1 a2).bind fun x2 => if x2 = 0 then (some (((-1 : Int32), h1))) else (if oK h1 a0 7 = true then (f_X7_snap h1 a0).bind fun h3 => (gR h3 a0 7 11).bind fun x4 => (aI h3 0 x4 (1 : Int32)).bind fun x5 => (sI h3 0 x4 (1 : Int32) (x5 ^^^ ((1 : Int32) <<< ((a1 - (1 : Int32)) &&& 31)))).bind fun h6 => (gR h6 a0 7 11).bind fun x7 => (aI h6 0 x7 (1 : Int32)).bind fun x8 => (f_X7_bits h6 x8).bind fun x9 => some ((x9, h6)) else none) else none
set_option maxHeartbeats 4000000 in
set_option maxRecDepth 100000 in
theorem t_X7_hole {g : GT} {l : Launch} {h : Hp} {a0 : Nat} {a1 : Int32} {a2 : Int32} {r : (Int32 × Hp)} (hf : f_X7_hole h a0 a1 a2 = some r) : PM g l 5 0 0 yX7_hole wsX7_hole [.ref a0, .int a1, .int a2] h (fun r9 h9 => r9 = some (.int r.1) ∧ h9 = r.2) := by
  refine pm_of (M := m_X7_hole) (by decide) rfl rfl rfl (Nat.le_of_ble_eq_true rfl) (lo := [some (.ref a0), some (.int a1), some (.int a2)]) rfl ?_
  rw [f_X7_hole] at hf
  refine pw_aload_n dX7_hole_0 rfl ?_
  refine pw_iconst (v := (0)) dX7_hole_1 (by decide) ?_
  refine q_pV (ty := .int) hf tyX7 tyX7_ok nmX7 rfl (by decide) w9_X7_hole_X7 (by decide +kernel) rfl (by decide +kernel) rfl rfl dX7_hole_2 (fun h1 hf => ?_)
  refine pw_aload_n dX7_hole_5 rfl ?_
  refine pw_iload_n dX7_hole_6 rfl ?_
  refine pw_iload_n dX7_hole_7 rfl ?_
  refine q_callV_i (kc2 := 0) (ks2 := 0) (as := [.int a1, .int a2]) (rest := []) hf (fun x9 e9 => t_X7_mayHole e9) gX7_hole_X7_mayHole rfl hd9_X7_mayHole rfl rfl ⟨(by decide), by decide⟩ ⟨rfl, rfl⟩ (Nat.le_of_ble_eq_true rfl) dX7_hole_8 rfl (fun x2 hf => ?_)
  refine q_if_ne (tgt := 16) hf dX7_hole_11 (by decide) (fun hf _ => ?_) (fun hf _ => ?_)
  · refine pw_aload_n dX7_hole_16 rfl ?_
    refine q_callV_v (kc2 := 0) (ks2 := 0) (as := []) (rest := []) hf (fun x9 e9 => t_X7_snap e9) gX7_hole_X7_snap rfl hd9_X7_snap rfl rfl ⟨(by decide), by decide⟩ ⟨rfl, rfl⟩ (Nat.le_of_ble_eq_true rfl) dX7_hole_17 rfl (fun h3 hf => ?_)
    refine pw_aload_n dX7_hole_20 rfl ?_
    refine q_gR hf rfl (by decide) w9_X7_hole_X7 (by decide +kernel) dX7_hole_21 (fun x4 hf => ?_)
    refine pw_iconst (v := (1)) dX7_hole_24 (by decide) ?_
    refine pw_dup2 dX7_hole_25 ⟨rfl, rfl⟩ ?_
    refine q_iald hf dX7_hole_26 (fun x5 hf => ?_)
    refine pw_iconst (v := (1)) dX7_hole_27 (by decide) ?_
    refine pw_iload_n dX7_hole_28 rfl ?_
    refine pw_iconst (v := (1)) dX7_hole_29 (by decide) ?_
    refine pw_isub dX7_hole_30 ?_
    refine pw_ishl dX7_hole_31 ?_
    refine pw_ixor dX7_hole_32 ?_
    refine q_iast hf dX7_hole_33 (fun h6 hf => ?_)
    refine pw_aload_n dX7_hole_34 rfl ?_
    refine q_gR hf rfl (by decide) w9_X7_hole_X7 (by decide +kernel) dX7_hole_35 (fun x7 hf => ?_)
    refine pw_iconst (v := (1)) dX7_hole_38 (by decide) ?_
    refine q_iald hf dX7_hole_39 (fun x8 hf => ?_)
    refine q_callS_i (kc2 := 0) (ks2 := 0) (as := [.int x8]) (rest := []) hf (fun x9 e9 => t_X7_bits e9) gX7_hole_X7_bits rfl hd9_X7_bits rfl ⟨(by decide), by decide⟩ ⟨rfl, rfl⟩ (Nat.le_of_ble_eq_true rfl) dX7_hole_40 rfl (fun x9 hf => ?_)
    exact pw_iret (x := x9) rfl rfl dX7_hole_43 (ret_iw hf)
  · refine pw_iconst (v := (-1)) dX7_hole_14 (by decide) ?_
    exact pw_iret (x := (-1 : Int32)) rfl rfl dX7_hole_15 (ret_iw hf)
/-! X7_mayPair -/
abbrev m_X7_mayPair : MD := (cX7_mayPair, RX7, "mayPair", wsX7_mayPair, 3, (some .boolean))
theorem w9_X7_mayPair_X7 : ∀ w ∈ u_ws RX7 TX7 31, w ∈ wsX7_mayPair := by decide +kernel
theorem hd9_X7_mayPair : yX7_mayPair.cls = RX7 ∧ yX7_mayPair.cls ≠ "java/lang/invoke/MethodHandle" ∧ yX7_mayPair.cls ≠ "java/lang/invoke/VarHandle" ∧ (parseMethodDescriptor yX7_mayPair.desc).map (fun d => d.parameters.length) = some 2 := by decide +kernel
def f_X7_mayPair (h : Hp) (a0 : Nat) (a1 : Int32) (a2 : Int32) : Option Int32 := (f_X7_isIn h a1 (1 : Int32) (15 : Int32)).bind fun x1 => if x1 = 0 then (some ((0 : Int32))) else ((gR h a0 7 11).bind fun x2 => (f_X7_isTold h x2 a1).bind fun x3 => if x3 = a2 then (some ((0 : Int32))) else (if a2 = 0 then (some ((1 : Int32))) else ((gR h a0 7 11).bind fun x4 => (aI h 0 x4 (2 : Int32)).bind fun x5 => (f_X7_bits h x5).bind fun x6 => if (9 : Int32) ≤ x6 then (some ((0 : Int32))) else (some ((1 : Int32))))))
set_option maxHeartbeats 4000000 in
set_option maxRecDepth 100000 in
theorem t_X7_mayPair {g : GT} {l : Launch} {h : Hp} {a0 : Nat} {a1 : Int32} {a2 : Int32} {r : Int32} (hf : f_X7_mayPair h a0 a1 a2 = some r) : PM g l 3 0 0 yX7_mayPair wsX7_mayPair [.ref a0, .int a1, .int a2] h (fun r9 h9 => r9 = some (.int r) ∧ h9 = h) := by
  refine pm_of (M := m_X7_mayPair) (by decide) rfl rfl rfl (Nat.le_of_ble_eq_true rfl) (lo := [some (.ref a0), some (.int a1), some (.int a2)]) rfl ?_
  rw [f_X7_mayPair] at hf
  refine pw_iload_n dX7_mayPair_0 rfl ?_
  refine pw_iconst (v := (1)) dX7_mayPair_1 (by decide) ?_
  refine pw_bipush (v := (15)) dX7_mayPair_2 (by decide) ?_
  refine q_callS_i (kc2 := 0) (ks2 := 0) (as := [.int a1, .int (1 : Int32), .int (15 : Int32)]) (rest := []) hf (fun x9 e9 => t_X7_isIn e9) gX7_mayPair_X7_isIn rfl hd9_X7_isIn rfl ⟨(by decide), by decide⟩ ⟨rfl, rfl⟩ (Nat.le_of_ble_eq_true rfl) dX7_mayPair_4 rfl (fun x1 hf => ?_)
  refine q_if_eq (tgt := 44) hf dX7_mayPair_7 (by decide) (fun hf _ => ?_) (fun hf _ => ?_)
  · refine pw_iconst (v := (0)) dX7_mayPair_44 (by decide) ?_
    exact pw_iret (x := (0 : Int32)) rfl rfl dX7_mayPair_45 ⟨congrArg (fun z => some (Value.int z)) (Option.some.inj hf), rfl⟩
  · refine pw_aload_n dX7_mayPair_10 rfl ?_
    refine q_gR hf rfl (by decide) w9_X7_mayPair_X7 (by decide +kernel) dX7_mayPair_11 (fun x2 hf => ?_)
    refine pw_iload_n dX7_mayPair_14 rfl ?_
    refine q_callS_i (kc2 := 0) (ks2 := 0) (as := [.ref x2, .int a1]) (rest := []) hf (fun x9 e9 => t_X7_isTold e9) gX7_mayPair_X7_isTold rfl hd9_X7_isTold rfl ⟨(by decide), by decide⟩ ⟨rfl, rfl⟩ (Nat.le_of_ble_eq_true rfl) dX7_mayPair_15 rfl (fun x3 hf => ?_)
    refine pw_iload_n dX7_mayPair_18 rfl ?_
    refine q_icmp_eq (tgt := 44) hf dX7_mayPair_19 (by decide) (fun hf _ => ?_) (fun hf _ => ?_)
    · refine pw_iconst (v := (0)) dX7_mayPair_44 (by decide) ?_
      exact pw_iret (x := (0 : Int32)) rfl rfl dX7_mayPair_45 ⟨congrArg (fun z => some (Value.int z)) (Option.some.inj hf), rfl⟩
    · refine pw_iload_n dX7_mayPair_22 rfl ?_
      refine q_if_eq (tgt := 40) hf dX7_mayPair_23 (by decide) (fun hf _ => ?_) (fun hf _ => ?_)
      · refine pw_iconst (v := (1)) dX7_mayPair_40 (by decide) ?_
        refine pw_goto (tgt := 45) dX7_mayPair_41 (by decide) ?_
        exact pw_iret (x := (1 : Int32)) rfl rfl dX7_mayPair_45 ⟨congrArg (fun z => some (Value.int z)) (Option.some.inj hf), rfl⟩
      · refine pw_aload_n dX7_mayPair_26 rfl ?_
        refine q_gR hf rfl (by decide) w9_X7_mayPair_X7 (by decide +kernel) dX7_mayPair_27 (fun x4 hf => ?_)
        refine pw_iconst (v := (2)) dX7_mayPair_30 (by decide) ?_
        refine q_iald hf dX7_mayPair_31 (fun x5 hf => ?_)
        refine q_callS_i (kc2 := 0) (ks2 := 0) (as := [.int x5]) (rest := []) hf (fun x9 e9 => t_X7_bits e9) gX7_mayPair_X7_bits rfl hd9_X7_bits rfl ⟨(by decide), by decide⟩ ⟨rfl, rfl⟩ (Nat.le_of_ble_eq_true rfl) dX7_mayPair_32 rfl (fun x6 hf => ?_)
        refine pw_bipush (v := (9)) dX7_mayPair_35 (by decide) ?_
        refine q_icmp_ge (tgt := 44) hf dX7_mayPair_37 (by decide) (fun hf _ => ?_) (fun hf _ => ?_)
        · refine pw_iconst (v := (0)) dX7_mayPair_44 (by decide) ?_
          exact pw_iret (x := (0 : Int32)) rfl rfl dX7_mayPair_45 ⟨congrArg (fun z => some (Value.int z)) (Option.some.inj hf), rfl⟩
        · refine pw_iconst (v := (1)) dX7_mayPair_40 (by decide) ?_
          refine pw_goto (tgt := 45) dX7_mayPair_41 (by decide) ?_
          exact pw_iret (x := (1 : Int32)) rfl rfl dX7_mayPair_45 ⟨congrArg (fun z => some (Value.int z)) (Option.some.inj hf), rfl⟩
/-! X7_turns -/
abbrev m_X7_turns : MD := (cX7_turns, RX7, "turns", wsX7_turns, 2, none)
theorem w9_X7_turns_X7 : ∀ w ∈ u_ws RX7 TX7 31, w ∈ wsX7_turns := by decide +kernel
theorem hd9_X7_turns : yX7_turns.cls = RX7 ∧ yX7_turns.cls ≠ "java/lang/invoke/MethodHandle" ∧ yX7_turns.cls ≠ "java/lang/invoke/VarHandle" ∧ (parseMethodDescriptor yX7_turns.desc).map (fun d => d.parameters.length) = some 1 := by decide +kernel
def f_X7_turns (h : Hp) (a0 : Nat) (a1 : Int32) : Option Hp := (gR h a0 7 11).bind fun x1 => (aI h 0 x1 (2 : Int32)).bind fun x2 => (sI h 0 x1 (2 : Int32) (x2 ^^^ ((1 : Int32) <<< ((a1 - (1 : Int32)) &&& 31)))).bind fun h3 => (gR h3 a0 7 11).bind fun x4 => (sI h3 0 x4 ((3 : Int32) + a1) (0 : Int32)).bind fun h5 => some h5
set_option maxHeartbeats 4000000 in
set_option maxRecDepth 100000 in
theorem t_X7_turns {g : GT} {l : Launch} {h : Hp} {a0 : Nat} {a1 : Int32} {r : Hp} (hf : f_X7_turns h a0 a1 = some r) : PM g l 1 0 0 yX7_turns wsX7_turns [.ref a0, .int a1] h (fun r9 h9 => r9 = none ∧ h9 = r) := by
  refine pm_of (M := m_X7_turns) (by decide) rfl rfl rfl (Nat.le_of_ble_eq_true rfl) (lo := [some (.ref a0), some (.int a1)]) rfl ?_
  rw [f_X7_turns] at hf
  refine pw_aload_n dX7_turns_0 rfl ?_
  refine q_gR hf rfl (by decide) w9_X7_turns_X7 (by decide +kernel) dX7_turns_1 (fun x1 hf => ?_)
  refine pw_iconst (v := (2)) dX7_turns_4 (by decide) ?_
  refine pw_dup2 dX7_turns_5 ⟨rfl, rfl⟩ ?_
  refine q_iald hf dX7_turns_6 (fun x2 hf => ?_)
  refine pw_iconst (v := (1)) dX7_turns_7 (by decide) ?_
  refine pw_iload_n dX7_turns_8 rfl ?_
  refine pw_iconst (v := (1)) dX7_turns_9 (by decide) ?_
  refine pw_isub dX7_turns_10 ?_
  refine pw_ishl dX7_turns_11 ?_
  refine pw_ixor dX7_turns_12 ?_
  refine q_iast hf dX7_turns_13 (fun h3 hf => ?_)
  refine pw_aload_n dX7_turns_14 rfl ?_
  refine q_gR hf rfl (by decide) w9_X7_turns_X7 (by decide +kernel) dX7_turns_15 (fun x4 hf => ?_)
  refine pw_iconst (v := (3)) dX7_turns_18 (by decide) ?_
  refine pw_iload_n dX7_turns_19 rfl ?_
  refine pw_iadd dX7_turns_20 ?_
  refine pw_iconst (v := (0)) dX7_turns_21 (by decide) ?_
  refine q_iast hf dX7_turns_22 (fun h5 hf => ?_)
  exact pw_vret rfl dX7_turns_23 ⟨rfl, Option.some.inj hf⟩
/-! X7_pair -/
abbrev m_X7_pair : MD := (cX7_pair, RX7, "pair", wsX7_pair, 3, (some .int))
theorem w9_X7_pair_X7 : ∀ w ∈ u_ws RX7 TX7 31, w ∈ wsX7_pair := by decide +kernel
theorem hd9_X7_pair : yX7_pair.cls = RX7 ∧ yX7_pair.cls ≠ "java/lang/invoke/MethodHandle" ∧ yX7_pair.cls ≠ "java/lang/invoke/VarHandle" ∧ (parseMethodDescriptor yX7_pair.desc).map (fun d => d.parameters.length) = some 2 := by decide +kernel
def f_X7_pair (h : Hp) (a0 : Nat) (a1 : Int32) (a2 : Int32) : Option (Int32 × Hp) := (pV h a0 7 0 (.int (0 : Int32))).bind fun h1 => if oK h1 a0 7 = true then (f_X7_mayPair h1 a0 a1 a2).bind fun x2 => if x2 = 0 then (some (((-1 : Int32), h1))) else (if oK h1 a0 7 = true then (f_X7_snap h1 a0).bind fun h3 => if oK h3 a0 7 = true then (f_X7_turns h3 a0 a1).bind fun h4 => (gR h4 a0 7 11).bind fun x5 => (aI h4 0 x5 (2 : Int32)).bind fun x6 => (f_X7_bits h4 x6).bind fun x7 => some ((x7, h4)) else none else none) else none
set_option maxHeartbeats 4000000 in
set_option maxRecDepth 100000 in
theorem t_X7_pair {g : GT} {l : Launch} {h : Hp} {a0 : Nat} {a1 : Int32} {a2 : Int32} {r : (Int32 × Hp)} (hf : f_X7_pair h a0 a1 a2 = some r) : PM g l 4 0 0 yX7_pair wsX7_pair [.ref a0, .int a1, .int a2] h (fun r9 h9 => r9 = some (.int r.1) ∧ h9 = r.2) := by
  refine pm_of (M := m_X7_pair) (by decide) rfl rfl rfl (Nat.le_of_ble_eq_true rfl) (lo := [some (.ref a0), some (.int a1), some (.int a2)]) rfl ?_
  rw [f_X7_pair] at hf
  refine pw_aload_n dX7_pair_0 rfl ?_
  refine pw_iconst (v := (0)) dX7_pair_1 (by decide) ?_
  refine q_pV (ty := .int) hf tyX7 tyX7_ok nmX7 rfl (by decide) w9_X7_pair_X7 (by decide +kernel) rfl (by decide +kernel) rfl rfl dX7_pair_2 (fun h1 hf => ?_)
  refine pw_aload_n dX7_pair_5 rfl ?_
  refine pw_iload_n dX7_pair_6 rfl ?_
  refine pw_iload_n dX7_pair_7 rfl ?_
  refine q_callV_i (kc2 := 0) (ks2 := 0) (as := [.int a1, .int a2]) (rest := []) hf (fun x9 e9 => t_X7_mayPair e9) gX7_pair_X7_mayPair rfl hd9_X7_mayPair rfl rfl ⟨(by decide), by decide⟩ ⟨rfl, rfl⟩ (Nat.le_of_ble_eq_true rfl) dX7_pair_8 rfl (fun x2 hf => ?_)
  refine q_if_ne (tgt := 16) hf dX7_pair_11 (by decide) (fun hf _ => ?_) (fun hf _ => ?_)
  · refine pw_aload_n dX7_pair_16 rfl ?_
    refine q_callV_v (kc2 := 0) (ks2 := 0) (as := []) (rest := []) hf (fun x9 e9 => t_X7_snap e9) gX7_pair_X7_snap rfl hd9_X7_snap rfl rfl ⟨(by decide), by decide⟩ ⟨rfl, rfl⟩ (Nat.le_of_ble_eq_true rfl) dX7_pair_17 rfl (fun h3 hf => ?_)
    refine pw_aload_n dX7_pair_20 rfl ?_
    refine pw_iload_n dX7_pair_21 rfl ?_
    refine q_callV_v (kc2 := 0) (ks2 := 0) (as := [.int a1]) (rest := []) hf (fun x9 e9 => t_X7_turns e9) gX7_pair_X7_turns rfl hd9_X7_turns rfl rfl ⟨(by decide), by decide⟩ ⟨rfl, rfl⟩ (Nat.le_of_ble_eq_true rfl) dX7_pair_22 rfl (fun h4 hf => ?_)
    refine pw_aload_n dX7_pair_25 rfl ?_
    refine q_gR hf rfl (by decide) w9_X7_pair_X7 (by decide +kernel) dX7_pair_26 (fun x5 hf => ?_)
    refine pw_iconst (v := (2)) dX7_pair_29 (by decide) ?_
    refine q_iald hf dX7_pair_30 (fun x6 hf => ?_)
    refine q_callS_i (kc2 := 0) (ks2 := 0) (as := [.int x6]) (rest := []) hf (fun x9 e9 => t_X7_bits e9) gX7_pair_X7_bits rfl hd9_X7_bits rfl ⟨(by decide), by decide⟩ ⟨rfl, rfl⟩ (Nat.le_of_ble_eq_true rfl) dX7_pair_31 rfl (fun x7 hf => ?_)
    exact pw_iret (x := x7) rfl rfl dX7_pair_34 (ret_iw hf)
  · refine pw_iconst (v := (-1)) dX7_pair_14 (by decide) ?_
    exact pw_iret (x := (-1 : Int32)) rfl rfl dX7_pair_15 (ret_iw hf)
/-! X7_pin -/
abbrev m_X7_pin : MD := (cX7_pin, RX7, "pin", wsX7_pin, 3, (some .int))
theorem w9_X7_pin_X7 : ∀ w ∈ u_ws RX7 TX7 31, w ∈ wsX7_pin := by decide +kernel
theorem hd9_X7_pin : yX7_pin.cls = RX7 ∧ yX7_pin.cls ≠ "java/lang/invoke/MethodHandle" ∧ yX7_pin.cls ≠ "java/lang/invoke/VarHandle" ∧ (parseMethodDescriptor yX7_pin.desc).map (fun d => d.parameters.length) = some 2 := by decide +kernel
def f_X7_pin (h : Hp) (a0 : Nat) (a1 : Int32) (a2 : Int32) : Option (Int32 × Hp) := (pV h a0 7 0 (.int (0 : Int32))).bind fun h1 => (gR h1 a0 7 11).bind fun x2 => (f_X7_isTold h1 x2 a1).bind fun x3 => if x3 = 0 then (some (((-1 : Int32), h1))) else (if a2 = 0 then ((gR h1 a0 7 11).bind fun x4 => (aI h1 0 x4 ((3 : Int32) + a1)).bind fun x5 => if x5 = a2 then (some (((1 : Int32), h1))) else (if a2 ≤ 0 then (if oK h1 a0 7 = true then (f_X7_snap h1 a0).bind fun h6 => (gR h6 a0 7 11).bind fun x7 => (sI h6 0 x7 ((3 : Int32) + a1) a2).bind fun h8 => some (((0 : Int32), h8)) else none) else ((gR h1 a0 7 11).bind fun x9 => (f_X7_mayPin h1 x9 a1 a2).bind fun x10 => if x10 = 0 then (some (((2 : Int32), h1))) else (if oK h1 a0 7 = true then (f_X7_snap h1 a0).bind fun h11 => (gR h11 a0 7 11).bind fun x12 => (sI h11 0 x12 ((3 : Int32) + a1) a2).bind fun h13 => some (((0 : Int32), h13)) else none)))) else ((gR h1 a0 7 11).bind fun x14 => (aI h1 0 x14 (0 : Int32)).bind fun x15 => (f_X7_isIn h1 a2 (1 : Int32) (x15 - a1)).bind fun x16 => if x16 = 0 then (some (((-1 : Int32), h1))) else ((gR h1 a0 7 11).bind fun x17 => (aI h1 0 x17 ((3 : Int32) + a1)).bind fun x18 => if x18 = a2 then (some (((1 : Int32), h1))) else (if a2 ≤ 0 then (if oK h1 a0 7 = true then (f_X7_snap h1 a0).bind fun h19 => (gR h19 a0 7 11).bind fun x20 => (sI h19 0 x20 ((3 : Int32) + a1) a2).bind fun h21 => some (((0 : Int32), h21)) else none) else ((gR h1 a0 7 11).bind fun x22 => (f_X7_mayPin h1 x22 a1 a2).bind fun x23 => if x23 = 0 then (some (((2 : Int32), h1))) else (if oK h1 a0 7 = true then (f_X7_snap h1 a0).bind fun h24 => (gR h24 a0 7 11).bind fun x25 => (sI h24 0 x25 ((3 : Int32) + a1) a2).bind fun h26 => some (((0 : Int32), h26)) else none))))))
set_option maxHeartbeats 4000000 in
set_option maxRecDepth 100000 in
theorem t_X7_pin {g : GT} {l : Launch} {h : Hp} {a0 : Nat} {a1 : Int32} {a2 : Int32} {r : (Int32 × Hp)} (hf : f_X7_pin h a0 a1 a2 = some r) : PM g l 5 0 0 yX7_pin wsX7_pin [.ref a0, .int a1, .int a2] h (fun r9 h9 => r9 = some (.int r.1) ∧ h9 = r.2) := by
  refine pm_of (M := m_X7_pin) (by decide) rfl rfl rfl (Nat.le_of_ble_eq_true rfl) (lo := [some (.ref a0), some (.int a1), some (.int a2)]) rfl ?_
  rw [f_X7_pin] at hf
  refine pw_aload_n dX7_pin_0 rfl ?_
  refine pw_iconst (v := (0)) dX7_pin_1 (by decide) ?_
  refine q_pV (ty := .int) hf tyX7 tyX7_ok nmX7 rfl (by decide) w9_X7_pin_X7 (by decide +kernel) rfl (by decide +kernel) rfl rfl dX7_pin_2 (fun h1 hf => ?_)
  refine pw_aload_n dX7_pin_5 rfl ?_
  refine q_gR hf rfl (by decide) w9_X7_pin_X7 (by decide +kernel) dX7_pin_6 (fun x2 hf => ?_)
  refine pw_iload_n dX7_pin_9 rfl ?_
  refine q_callS_i (kc2 := 0) (ks2 := 0) (as := [.ref x2, .int a1]) (rest := []) hf (fun x9 e9 => t_X7_isTold e9) gX7_pin_X7_isTold rfl hd9_X7_isTold rfl ⟨(by decide), by decide⟩ ⟨rfl, rfl⟩ (Nat.le_of_ble_eq_true rfl) dX7_pin_10 rfl (fun x3 hf => ?_)
  refine q_if_eq (tgt := 36) hf dX7_pin_13 (by decide) (fun hf _ => ?_) (fun hf _ => ?_)
  · refine pw_iconst (v := (-1)) dX7_pin_36 (by decide) ?_
    exact pw_iret (x := (-1 : Int32)) rfl rfl dX7_pin_37 (ret_iw hf)
  · refine pw_iload_n dX7_pin_16 rfl ?_
    refine q_if_eq (tgt := 38) hf dX7_pin_17 (by decide) (fun hf _ => ?_) (fun hf _ => ?_)
    · refine pw_aload_n dX7_pin_38 rfl ?_
      refine q_gR hf rfl (by decide) w9_X7_pin_X7 (by decide +kernel) dX7_pin_39 (fun x4 hf => ?_)
      refine pw_iconst (v := (3)) dX7_pin_42 (by decide) ?_
      refine pw_iload_n dX7_pin_43 rfl ?_
      refine pw_iadd dX7_pin_44 ?_
      refine q_iald hf dX7_pin_45 (fun x5 hf => ?_)
      refine pw_iload_n dX7_pin_46 rfl ?_
      refine q_icmp_ne (tgt := 52) hf dX7_pin_47 (by decide) (fun hf _ => ?_) (fun hf _ => ?_)
      · refine pw_iload_n dX7_pin_52 rfl ?_
        refine q_if_le (tgt := 70) hf dX7_pin_53 (by decide) (fun hf _ => ?_) (fun hf _ => ?_)
        · refine pw_aload_n dX7_pin_70 rfl ?_
          refine q_callV_v (kc2 := 0) (ks2 := 0) (as := []) (rest := []) hf (fun x9 e9 => t_X7_snap e9) gX7_pin_X7_snap rfl hd9_X7_snap rfl rfl ⟨(by decide), by decide⟩ ⟨rfl, rfl⟩ (Nat.le_of_ble_eq_true rfl) dX7_pin_71 rfl (fun h6 hf => ?_)
          refine pw_aload_n dX7_pin_74 rfl ?_
          refine q_gR hf rfl (by decide) w9_X7_pin_X7 (by decide +kernel) dX7_pin_75 (fun x7 hf => ?_)
          refine pw_iconst (v := (3)) dX7_pin_78 (by decide) ?_
          refine pw_iload_n dX7_pin_79 rfl ?_
          refine pw_iadd dX7_pin_80 ?_
          refine pw_iload_n dX7_pin_81 rfl ?_
          refine q_iast hf dX7_pin_82 (fun h8 hf => ?_)
          refine pw_iconst (v := (0)) dX7_pin_83 (by decide) ?_
          exact pw_iret (x := (0 : Int32)) rfl rfl dX7_pin_84 (ret_iw hf)
        · refine pw_aload_n dX7_pin_56 rfl ?_
          refine q_gR hf rfl (by decide) w9_X7_pin_X7 (by decide +kernel) dX7_pin_57 (fun x9 hf => ?_)
          refine pw_iload_n dX7_pin_60 rfl ?_
          refine pw_iload_n dX7_pin_61 rfl ?_
          refine q_callS_i (kc2 := 0) (ks2 := 0) (as := [.ref x9, .int a1, .int a2]) (rest := []) hf (fun x9 e9 => t_X7_mayPin e9) gX7_pin_X7_mayPin rfl hd9_X7_mayPin rfl ⟨(by decide), by decide⟩ ⟨rfl, rfl⟩ (Nat.le_of_ble_eq_true rfl) dX7_pin_62 rfl (fun x10 hf => ?_)
          refine q_if_ne (tgt := 70) hf dX7_pin_65 (by decide) (fun hf _ => ?_) (fun hf _ => ?_)
          · refine pw_aload_n dX7_pin_70 rfl ?_
            refine q_callV_v (kc2 := 0) (ks2 := 0) (as := []) (rest := []) hf (fun x9 e9 => t_X7_snap e9) gX7_pin_X7_snap rfl hd9_X7_snap rfl rfl ⟨(by decide), by decide⟩ ⟨rfl, rfl⟩ (Nat.le_of_ble_eq_true rfl) dX7_pin_71 rfl (fun h11 hf => ?_)
            refine pw_aload_n dX7_pin_74 rfl ?_
            refine q_gR hf rfl (by decide) w9_X7_pin_X7 (by decide +kernel) dX7_pin_75 (fun x12 hf => ?_)
            refine pw_iconst (v := (3)) dX7_pin_78 (by decide) ?_
            refine pw_iload_n dX7_pin_79 rfl ?_
            refine pw_iadd dX7_pin_80 ?_
            refine pw_iload_n dX7_pin_81 rfl ?_
            refine q_iast hf dX7_pin_82 (fun h13 hf => ?_)
            refine pw_iconst (v := (0)) dX7_pin_83 (by decide) ?_
            exact pw_iret (x := (0 : Int32)) rfl rfl dX7_pin_84 (ret_iw hf)
          · refine pw_iconst (v := (2)) dX7_pin_68 (by decide) ?_
            exact pw_iret (x := (2 : Int32)) rfl rfl dX7_pin_69 (ret_iw hf)
      · refine pw_iconst (v := (1)) dX7_pin_50 (by decide) ?_
        exact pw_iret (x := (1 : Int32)) rfl rfl dX7_pin_51 (ret_iw hf)
    · refine pw_iload_n dX7_pin_20 rfl ?_
      refine pw_iconst (v := (1)) dX7_pin_21 (by decide) ?_
      refine pw_aload_n dX7_pin_22 rfl ?_
      refine q_gR hf rfl (by decide) w9_X7_pin_X7 (by decide +kernel) dX7_pin_23 (fun x14 hf => ?_)
      refine pw_iconst (v := (0)) dX7_pin_26 (by decide) ?_
      refine q_iald hf dX7_pin_27 (fun x15 hf => ?_)
      refine pw_iload_n dX7_pin_28 rfl ?_
      refine pw_isub dX7_pin_29 ?_
      refine q_callS_i (kc2 := 0) (ks2 := 0) (as := [.int a2, .int (1 : Int32), .int (x15 - a1)]) (rest := []) hf (fun x9 e9 => t_X7_isIn e9) gX7_pin_X7_isIn rfl hd9_X7_isIn rfl ⟨(by decide), by decide⟩ ⟨rfl, rfl⟩ (Nat.le_of_ble_eq_true rfl) dX7_pin_30 rfl (fun x16 hf => ?_)
      refine q_if_ne (tgt := 38) hf dX7_pin_33 (by decide) (fun hf _ => ?_) (fun hf _ => ?_)
      · refine pw_aload_n dX7_pin_38 rfl ?_
        refine q_gR hf rfl (by decide) w9_X7_pin_X7 (by decide +kernel) dX7_pin_39 (fun x17 hf => ?_)
        refine pw_iconst (v := (3)) dX7_pin_42 (by decide) ?_
        refine pw_iload_n dX7_pin_43 rfl ?_
        refine pw_iadd dX7_pin_44 ?_
        refine q_iald hf dX7_pin_45 (fun x18 hf => ?_)
        refine pw_iload_n dX7_pin_46 rfl ?_
        refine q_icmp_ne (tgt := 52) hf dX7_pin_47 (by decide) (fun hf _ => ?_) (fun hf _ => ?_)
        · refine pw_iload_n dX7_pin_52 rfl ?_
          refine q_if_le (tgt := 70) hf dX7_pin_53 (by decide) (fun hf _ => ?_) (fun hf _ => ?_)
          · refine pw_aload_n dX7_pin_70 rfl ?_
            refine q_callV_v (kc2 := 0) (ks2 := 0) (as := []) (rest := []) hf (fun x9 e9 => t_X7_snap e9) gX7_pin_X7_snap rfl hd9_X7_snap rfl rfl ⟨(by decide), by decide⟩ ⟨rfl, rfl⟩ (Nat.le_of_ble_eq_true rfl) dX7_pin_71 rfl (fun h19 hf => ?_)
            refine pw_aload_n dX7_pin_74 rfl ?_
            refine q_gR hf rfl (by decide) w9_X7_pin_X7 (by decide +kernel) dX7_pin_75 (fun x20 hf => ?_)
            refine pw_iconst (v := (3)) dX7_pin_78 (by decide) ?_
            refine pw_iload_n dX7_pin_79 rfl ?_
            refine pw_iadd dX7_pin_80 ?_
            refine pw_iload_n dX7_pin_81 rfl ?_
            refine q_iast hf dX7_pin_82 (fun h21 hf => ?_)
            refine pw_iconst (v := (0)) dX7_pin_83 (by decide) ?_
            exact pw_iret (x := (0 : Int32)) rfl rfl dX7_pin_84 (ret_iw hf)
          · refine pw_aload_n dX7_pin_56 rfl ?_
            refine q_gR hf rfl (by decide) w9_X7_pin_X7 (by decide +kernel) dX7_pin_57 (fun x22 hf => ?_)
            refine pw_iload_n dX7_pin_60 rfl ?_
            refine pw_iload_n dX7_pin_61 rfl ?_
            refine q_callS_i (kc2 := 0) (ks2 := 0) (as := [.ref x22, .int a1, .int a2]) (rest := []) hf (fun x9 e9 => t_X7_mayPin e9) gX7_pin_X7_mayPin rfl hd9_X7_mayPin rfl ⟨(by decide), by decide⟩ ⟨rfl, rfl⟩ (Nat.le_of_ble_eq_true rfl) dX7_pin_62 rfl (fun x23 hf => ?_)
            refine q_if_ne (tgt := 70) hf dX7_pin_65 (by decide) (fun hf _ => ?_) (fun hf _ => ?_)
            · refine pw_aload_n dX7_pin_70 rfl ?_
              refine q_callV_v (kc2 := 0) (ks2 := 0) (as := []) (rest := []) hf (fun x9 e9 => t_X7_snap e9) gX7_pin_X7_snap rfl hd9_X7_snap rfl rfl ⟨(by decide), by decide⟩ ⟨rfl, rfl⟩ (Nat.le_of_ble_eq_true rfl) dX7_pin_71 rfl (fun h24 hf => ?_)
              refine pw_aload_n dX7_pin_74 rfl ?_
              refine q_gR hf rfl (by decide) w9_X7_pin_X7 (by decide +kernel) dX7_pin_75 (fun x25 hf => ?_)
              refine pw_iconst (v := (3)) dX7_pin_78 (by decide) ?_
              refine pw_iload_n dX7_pin_79 rfl ?_
              refine pw_iadd dX7_pin_80 ?_
              refine pw_iload_n dX7_pin_81 rfl ?_
              refine q_iast hf dX7_pin_82 (fun h26 hf => ?_)
              refine pw_iconst (v := (0)) dX7_pin_83 (by decide) ?_
              exact pw_iret (x := (0 : Int32)) rfl rfl dX7_pin_84 (ret_iw hf)
            · refine pw_iconst (v := (2)) dX7_pin_68 (by decide) ?_
              exact pw_iret (x := (2 : Int32)) rfl rfl dX7_pin_69 (ret_iw hf)
        · refine pw_iconst (v := (1)) dX7_pin_50 (by decide) ?_
          exact pw_iret (x := (1 : Int32)) rfl rfl dX7_pin_51 (ret_iw hf)
      · refine pw_iconst (v := (-1)) dX7_pin_36 (by decide) ?_
        exact pw_iret (x := (-1 : Int32)) rfl rfl dX7_pin_37 (ret_iw hf)
/-! X7_draw -/
abbrev m_X7_draw : MD := (cX7_draw, RX7, "draw", wsX7_draw, 2, (some .int))
theorem w9_X7_draw_X7 : ∀ w ∈ u_ws RX7 TX7 31, w ∈ wsX7_draw := by decide +kernel
theorem hd9_X7_draw : yX7_draw.cls = RX7 ∧ yX7_draw.cls ≠ "java/lang/invoke/MethodHandle" ∧ yX7_draw.cls ≠ "java/lang/invoke/VarHandle" ∧ (parseMethodDescriptor yX7_draw.desc).map (fun d => d.parameters.length) = some 1 := by decide +kernel
def f_X7_draw (h : Hp) (a0 : Nat) (a1 : Int32) : Option (Int32 × Hp) := (gI h a0 7 30).bind fun x1 => (pV h a0 7 30 (.int ((x1 * (1103515245 : Int32)) + (12345 : Int32)))).bind fun h2 => (gI h2 a0 7 30).bind fun x3 => if a1 = 0 then none else some (((ushr x3 (8 : Int32)) - (ushr x3 (8 : Int32)) / a1 * a1, h2))
set_option maxHeartbeats 4000000 in
set_option maxRecDepth 100000 in
theorem t_X7_draw {g : GT} {l : Launch} {h : Hp} {a0 : Nat} {a1 : Int32} {r : (Int32 × Hp)} (hf : f_X7_draw h a0 a1 = some r) : PM g l 1 0 0 yX7_draw wsX7_draw [.ref a0, .int a1] h (fun r9 h9 => r9 = some (.int r.1) ∧ h9 = r.2) := by
  refine pm_of (M := m_X7_draw) (by decide) rfl rfl rfl (Nat.le_of_ble_eq_true rfl) (lo := [some (.ref a0), some (.int a1)]) rfl ?_
  rw [f_X7_draw] at hf
  refine pw_aload_n dX7_draw_0 rfl ?_
  refine pw_aload_n dX7_draw_1 rfl ?_
  refine q_gI hf rfl (by decide) w9_X7_draw_X7 (by decide +kernel) dX7_draw_2 (fun x1 hf => ?_)
  refine pw_ldcw (v := (1103515245)) dX7_draw_5 (by decide +kernel) ?_
  refine pw_imul dX7_draw_8 ?_
  refine pw_sipush (v := (12345)) dX7_draw_9 (by decide) ?_
  refine pw_iadd dX7_draw_12 ?_
  refine q_pV (ty := .int) hf tyX7 tyX7_ok nmX7 rfl (by decide) w9_X7_draw_X7 (by decide +kernel) rfl (by decide +kernel) rfl rfl dX7_draw_13 (fun h2 hf => ?_)
  refine pw_aload_n dX7_draw_16 rfl ?_
  refine q_gI hf rfl (by decide) w9_X7_draw_X7 (by decide +kernel) dX7_draw_17 (fun x3 hf => ?_)
  refine pw_bipush (v := (8)) dX7_draw_20 (by decide) ?_
  refine pw_iushr dX7_draw_22 ?_
  refine pw_iload_n dX7_draw_23 rfl ?_
  refine q_irem hf dX7_draw_24 (fun hf => ?_)
  exact pw_iret (x := (ushr x3 (8 : Int32)) - (ushr x3 (8 : Int32)) / a1 * a1) rfl rfl dX7_draw_25 (ret_iw hf)
/-! X7_distance -/
abbrev m_X7_distance : MD := (cX7_distance, RX7, "distance", wsX7_distance, 4, (some .int))
theorem w9_X7_distance_X7 : ∀ w ∈ u_ws RX7 TX7 31, w ∈ wsX7_distance := by decide +kernel
theorem hd9_X7_distance : yX7_distance.cls = RX7 ∧ yX7_distance.cls ≠ "java/lang/invoke/MethodHandle" ∧ yX7_distance.cls ≠ "java/lang/invoke/VarHandle" ∧ (parseMethodDescriptor yX7_distance.desc).map (fun d => d.parameters.length) = some 1 := by decide +kernel
def f_X7_distance_4 : Nat → Nat → Int32 → Int32 → Hp → Option Int32
  | 0, _, _, _, _ => none
  | n + 1, v0, v2, v3, h => (gR h v0 7 11).bind fun x1 => (f_X7_isTold h x1 v3).bind fun x2 => if x2 = 0 then ((gR h v0 7 11).bind fun x3 => (f_X7_isTold h x3 v3).bind fun x4 => if x4 = 0 then (f_X7_distance_4 n v0 v2 (v3 + (1)) h) else (f_X7_distance_4 n v0 (v2 + (-1)) (v3 + (1)) h)) else (if v2 ≤ 0 then (some (v3)) else ((gR h v0 7 11).bind fun x5 => (f_X7_isTold h x5 v3).bind fun x6 => if x6 = 0 then (f_X7_distance_4 n v0 v2 (v3 + (1)) h) else (f_X7_distance_4 n v0 (v2 + (-1)) (v3 + (1)) h)))
set_option maxHeartbeats 4000000 in
set_option maxRecDepth 100000 in
theorem w_X7_distance_4 {g : GT} {l : Launch} {r : Int32} : ∀ (n : Nat) (v0 : Nat) (v2 : Int32) (v3 : Int32) (h : Hp), f_X7_distance_4 n v0 v2 v3 h = some r → PW g l m_X7_distance 3 0 0 4 [some (.ref v0), none, some (.int v2), some (.int v3)] [] h (fun r9 h9 => r9 = some (.int r) ∧ h9 = h) := by
  intro n
  induction n with
  | zero => intro v0 v2 v3 h hf; cases hf
  | succ n ih =>
    intro v0 v2 v3 h hf
    rw [f_X7_distance_4] at hf
    refine pw_aload_n dX7_distance_4 rfl ?_
    refine q_gR hf rfl (by decide) w9_X7_distance_X7 (by decide +kernel) dX7_distance_5 (fun x1 hf => ?_)
    refine pw_iload_n dX7_distance_8 rfl ?_
    refine q_callS_i (kc2 := 0) (ks2 := 0) (as := [.ref x1, .int v3]) (rest := []) hf (fun x9 e9 => t_X7_isTold e9) gX7_distance_X7_isTold rfl hd9_X7_isTold rfl ⟨(by decide), by decide⟩ ⟨rfl, rfl⟩ (Nat.le_of_ble_eq_true rfl) dX7_distance_9 rfl (fun x2 hf => ?_)
    refine q_if_eq (tgt := 19) hf dX7_distance_12 (by decide) (fun hf _ => ?_) (fun hf _ => ?_)
    · refine pw_aload_n dX7_distance_19 rfl ?_
      refine q_gR hf rfl (by decide) w9_X7_distance_X7 (by decide +kernel) dX7_distance_20 (fun x3 hf => ?_)
      refine pw_iload_n dX7_distance_23 rfl ?_
      refine q_callS_i (kc2 := 0) (ks2 := 0) (as := [.ref x3, .int v3]) (rest := []) hf (fun x9 e9 => t_X7_isTold e9) gX7_distance_X7_isTold rfl hd9_X7_isTold rfl ⟨(by decide), by decide⟩ ⟨rfl, rfl⟩ (Nat.le_of_ble_eq_true rfl) dX7_distance_24 rfl (fun x4 hf => ?_)
      refine q_if_eq (tgt := 33) hf dX7_distance_27 (by decide) (fun hf _ => ?_) (fun hf _ => ?_)
      · refine pw_iinc (v := v3 + (1)) dX7_distance_33 rfl rfl (by decide) rfl ?_
        dsimp only [lset, lset2, clr]
        refine pw_goto (tgt := 4) dX7_distance_36 (by decide) ?_
        exact pw_lo (lle_s rfl (lle_n (lle_s rfl (lle_s rfl lle_0)))) (ih _ _ _ _ hf)
      · refine pw_iinc (v := v2 + (-1)) dX7_distance_30 rfl rfl (by decide) rfl ?_
        dsimp only [lset, lset2, clr]
        refine pw_iinc (v := v3 + (1)) dX7_distance_33 rfl rfl (by decide) rfl ?_
        dsimp only [lset, lset2, clr]
        refine pw_goto (tgt := 4) dX7_distance_36 (by decide) ?_
        exact pw_lo (lle_s rfl (lle_n (lle_s rfl (lle_s rfl lle_0)))) (ih _ _ _ _ hf)
    · refine pw_iload_n dX7_distance_15 rfl ?_
      refine q_if_le (tgt := 39) hf dX7_distance_16 (by decide) (fun hf _ => ?_) (fun hf _ => ?_)
      · refine pw_iload_n dX7_distance_39 rfl ?_
        exact pw_iret (x := v3) rfl rfl dX7_distance_40 ⟨congrArg (fun z => some (Value.int z)) (Option.some.inj hf), rfl⟩
      · refine pw_aload_n dX7_distance_19 rfl ?_
        refine q_gR hf rfl (by decide) w9_X7_distance_X7 (by decide +kernel) dX7_distance_20 (fun x5 hf => ?_)
        refine pw_iload_n dX7_distance_23 rfl ?_
        refine q_callS_i (kc2 := 0) (ks2 := 0) (as := [.ref x5, .int v3]) (rest := []) hf (fun x9 e9 => t_X7_isTold e9) gX7_distance_X7_isTold rfl hd9_X7_isTold rfl ⟨(by decide), by decide⟩ ⟨rfl, rfl⟩ (Nat.le_of_ble_eq_true rfl) dX7_distance_24 rfl (fun x6 hf => ?_)
        refine q_if_eq (tgt := 33) hf dX7_distance_27 (by decide) (fun hf _ => ?_) (fun hf _ => ?_)
        · refine pw_iinc (v := v3 + (1)) dX7_distance_33 rfl rfl (by decide) rfl ?_
          dsimp only [lset, lset2, clr]
          refine pw_goto (tgt := 4) dX7_distance_36 (by decide) ?_
          exact pw_lo (lle_s rfl (lle_n (lle_s rfl (lle_s rfl lle_0)))) (ih _ _ _ _ hf)
        · refine pw_iinc (v := v2 + (-1)) dX7_distance_30 rfl rfl (by decide) rfl ?_
          dsimp only [lset, lset2, clr]
          refine pw_iinc (v := v3 + (1)) dX7_distance_33 rfl rfl (by decide) rfl ?_
          dsimp only [lset, lset2, clr]
          refine pw_goto (tgt := 4) dX7_distance_36 (by decide) ?_
          exact pw_lo (lle_s rfl (lle_n (lle_s rfl (lle_s rfl lle_0)))) (ih _ _ _ _ hf)
def f_X7_distance (h : Hp) (a0 : Nat) (a1 : Int32) : Option Int32 := f_X7_distance_4 4096 a0 a1 (1 : Int32) h
set_option maxHeartbeats 4000000 in
set_option maxRecDepth 100000 in
theorem t_X7_distance {g : GT} {l : Launch} {h : Hp} {a0 : Nat} {a1 : Int32} {r : Int32} (hf : f_X7_distance h a0 a1 = some r) : PM g l 3 0 0 yX7_distance wsX7_distance [.ref a0, .int a1] h (fun r9 h9 => r9 = some (.int r) ∧ h9 = h) := by
  refine pm_of (M := m_X7_distance) (by decide) rfl rfl rfl (Nat.le_of_ble_eq_true rfl) (lo := [some (.ref a0), some (.int a1), none, none]) rfl ?_
  rw [f_X7_distance] at hf
  refine pw_iload_n dX7_distance_0 rfl ?_
  refine pw_istore_n dX7_distance_1 (by decide) rfl ?_
  dsimp only [lset, lset2, clr]
  refine pw_iconst (v := (1)) dX7_distance_2 (by decide) ?_
  refine pw_istore_n dX7_distance_3 (by decide) rfl ?_
  dsimp only [lset, lset2, clr]
  exact pw_lo (lle_s rfl (lle_n (lle_s rfl (lle_s rfl lle_0)))) (w_X7_distance_4 4096 _ _ _ _ hf)
/-! X7_does -/
abbrev m_X7_does : MD := (cX7_does, RX7, "does", wsX7_does, 4, (some .boolean))
theorem w9_X7_does_X7 : ∀ w ∈ u_ws RX7 TX7 31, w ∈ wsX7_does := by decide +kernel
theorem hd9_X7_does : yX7_does.cls = RX7 ∧ yX7_does.cls ≠ "java/lang/invoke/MethodHandle" ∧ yX7_does.cls ≠ "java/lang/invoke/VarHandle" ∧ (parseMethodDescriptor yX7_does.desc).map (fun d => d.parameters.length) = some 0 := by decide +kernel
def f_X7_does (h : Hp) (a0 : Nat) : Option (Int32 × Hp) := if oK h a0 7 = true then (f_X7_draw h a0 (4 : Int32)).bind fun x1 => (gR x1.2 a0 7 11).bind fun x2 => (aI x1.2 0 x2 (0 : Int32)).bind fun x3 => if x3 = 0 then (some (((0 : Int32), x1.2))) else (if x1.1 = 0 then ((gR x1.2 a0 7 11).bind fun x31 => (aI x1.2 0 x31 (0 : Int32)).bind fun x32 => if oK x1.2 a0 7 = true then (f_X7_draw x1.2 a0 x32).bind fun x33 => (gR x33.2 a0 7 11).bind fun x34 => (f_X7_pins x33.2 x34 (0 : Int32)).bind fun x35 => (f_X7_has x33.2 x35 ((x33.1 + (1 : Int32)) - (1 : Int32))).bind fun x36 => if x36 = 0 then ((gR x33.2 a0 7 11).bind fun x37 => (aI x33.2 0 x37 (1 : Int32)).bind fun x38 => (sI x33.2 0 x37 (1 : Int32) (x38 ^^^ ((1 : Int32) <<< (((x33.1 + (1 : Int32)) - (1 : Int32)) &&& 31)))).bind fun h39 => some (((1 : Int32), h39))) else (some (((0 : Int32), x33.2))) else none) else (if x1.1 = (1 : Int32) then (if oK x1.2 a0 7 = true then (f_X7_draw x1.2 a0 (15 : Int32)).bind fun x24 => (gR x24.2 a0 7 11).bind fun x25 => (f_X7_isTold x24.2 x25 (x24.1 + (1 : Int32))).bind fun x26 => if x26 = 0 then (if oK x24.2 a0 7 = true then (f_X7_mayPair x24.2 a0 (x24.1 + (1 : Int32)) (1 : Int32)).bind fun x29 => if x29 = 0 then (some (((0 : Int32), x24.2))) else (if oK x24.2 a0 7 = true then (f_X7_turns x24.2 a0 (x24.1 + (1 : Int32))).bind fun h30 => some (((1 : Int32), h30)) else none) else none) else (if oK x24.2 a0 7 = true then (f_X7_mayPair x24.2 a0 (x24.1 + (1 : Int32)) (0 : Int32)).bind fun x27 => if x27 = 0 then (some (((0 : Int32), x24.2))) else (if oK x24.2 a0 7 = true then (f_X7_turns x24.2 a0 (x24.1 + (1 : Int32))).bind fun h28 => some (((1 : Int32), h28)) else none) else none) else none) else ((gR x1.2 a0 7 11).bind fun x4 => (aI x1.2 0 x4 (2 : Int32)).bind fun x5 => if x5 = 0 then (some (((0 : Int32), x1.2))) else ((gR x1.2 a0 7 11).bind fun x6 => (aI x1.2 0 x6 (2 : Int32)).bind fun x7 => (f_X7_bits x1.2 x7).bind fun x8 => if oK x1.2 a0 7 = true then (f_X7_draw x1.2 a0 x8).bind fun x9 => if oK x9.2 a0 7 = true then (f_X7_distance x9.2 a0 x9.1).bind fun x10 => (gR x9.2 a0 7 11).bind fun x11 => (aI x9.2 0 x11 (0 : Int32)).bind fun x12 => if oK x9.2 a0 7 = true then (f_X7_draw x9.2 a0 x12).bind fun x13 => (gR x13.2 a0 7 11).bind fun x14 => (aI x13.2 0 x14 ((3 : Int32) + x10)).bind fun x15 => if x15 ≤ 0 then ((gR x13.2 a0 7 11).bind fun x16 => (aI x13.2 0 x16 (0 : Int32)).bind fun x17 => if x17 < ((x13.1 + (1 : Int32)) + x10) then (some (((0 : Int32), x13.2))) else ((gR x13.2 a0 7 11).bind fun x18 => (f_X7_mayPin x13.2 x18 x10 (x13.1 + (1 : Int32))).bind fun x19 => if x19 = 0 then (some (((0 : Int32), x13.2))) else ((gR x13.2 a0 7 11).bind fun x20 => (sI x13.2 0 x20 ((3 : Int32) + x10) (x13.1 + (1 : Int32))).bind fun h21 => some (((1 : Int32), h21))))) else ((gR x13.2 a0 7 11).bind fun x22 => (sI x13.2 0 x22 ((3 : Int32) + x10) (0 : Int32)).bind fun h23 => some (((1 : Int32), h23))) else none else none else none)))) else none
set_option maxHeartbeats 4000000 in
set_option maxRecDepth 100000 in
theorem t_X7_does {g : GT} {l : Launch} {h : Hp} {a0 : Nat} {r : (Int32 × Hp)} (hf : f_X7_does h a0 = some r) : PM g l 5 0 0 yX7_does wsX7_does [.ref a0] h (fun r9 h9 => r9 = some (.int r.1) ∧ h9 = r.2) := by
  refine pm_of (M := m_X7_does) (by decide) rfl rfl rfl (Nat.le_of_ble_eq_true rfl) (lo := [some (.ref a0), none, none, none]) rfl ?_
  rw [f_X7_does] at hf
  refine pw_aload_n dX7_does_0 rfl ?_
  refine pw_iconst (v := (4)) dX7_does_1 (by decide) ?_
  refine q_callV_iw (kc2 := 0) (ks2 := 0) (as := [.int (4 : Int32)]) (rest := []) hf (fun x9 e9 => t_X7_draw e9) gX7_does_X7_draw rfl hd9_X7_draw rfl rfl ⟨(by decide), by decide⟩ ⟨rfl, rfl⟩ (Nat.le_of_ble_eq_true rfl) dX7_does_2 rfl (fun x1 hf => ?_)
  refine pw_istore_n dX7_does_5 (by decide) rfl ?_
  dsimp only [lset, lset2, clr]
  refine pw_aload_n dX7_does_6 rfl ?_
  refine q_gR hf rfl (by decide) w9_X7_does_X7 (by decide +kernel) dX7_does_7 (fun x2 hf => ?_)
  refine pw_iconst (v := (0)) dX7_does_10 (by decide) ?_
  refine q_iald hf dX7_does_11 (fun x3 hf => ?_)
  refine q_if_ne (tgt := 17) hf dX7_does_12 (by decide) (fun hf _ => ?_) (fun hf _ => ?_)
  · refine pw_iload_n dX7_does_17 rfl ?_
    refine q_if_ne (tgt := 69) hf dX7_does_18 (by decide) (fun hf _ => ?_) (fun hf _ => ?_)
    · refine pw_iload_n dX7_does_69 rfl ?_
      refine pw_iconst (v := (1)) dX7_does_70 (by decide) ?_
      refine q_icmp_ne (tgt := 116) hf dX7_does_71 (by decide) (fun hf _ => ?_) (fun hf _ => ?_)
      · refine pw_aload_n dX7_does_116 rfl ?_
        refine q_gR hf rfl (by decide) w9_X7_does_X7 (by decide +kernel) dX7_does_117 (fun x4 hf => ?_)
        refine pw_iconst (v := (2)) dX7_does_120 (by decide) ?_
        refine q_iald hf dX7_does_121 (fun x5 hf => ?_)
        refine q_if_ne (tgt := 127) hf dX7_does_122 (by decide) (fun hf _ => ?_) (fun hf _ => ?_)
        · refine pw_aload_n dX7_does_127 rfl ?_
          refine pw_aload_n dX7_does_128 rfl ?_
          refine pw_aload_n dX7_does_129 rfl ?_
          refine q_gR hf rfl (by decide) w9_X7_does_X7 (by decide +kernel) dX7_does_130 (fun x6 hf => ?_)
          refine pw_iconst (v := (2)) dX7_does_133 (by decide) ?_
          refine q_iald hf dX7_does_134 (fun x7 hf => ?_)
          refine q_callS_i (kc2 := 0) (ks2 := 0) (as := [.int x7]) (rest := [.ref a0, .ref a0]) hf (fun x9 e9 => t_X7_bits e9) gX7_does_X7_bits rfl hd9_X7_bits rfl ⟨(by decide), by decide⟩ ⟨rfl, rfl⟩ (Nat.le_of_ble_eq_true rfl) dX7_does_135 rfl (fun x8 hf => ?_)
          refine q_callV_iw (kc2 := 0) (ks2 := 0) (as := [.int x8]) (rest := [.ref a0]) hf (fun x9 e9 => t_X7_draw e9) gX7_does_X7_draw rfl hd9_X7_draw rfl rfl ⟨(by decide), by decide⟩ ⟨rfl, rfl⟩ (Nat.le_of_ble_eq_true rfl) dX7_does_138 rfl (fun x9 hf => ?_)
          refine q_callV_i (kc2 := 0) (ks2 := 0) (as := [.int x9.1]) (rest := []) hf (fun x9 e9 => t_X7_distance e9) gX7_does_X7_distance rfl hd9_X7_distance rfl rfl ⟨(by decide), by decide⟩ ⟨rfl, rfl⟩ (Nat.le_of_ble_eq_true rfl) dX7_does_141 rfl (fun x10 hf => ?_)
          refine pw_istore_n dX7_does_144 (by decide) rfl ?_
          dsimp only [lset, lset2, clr]
          refine pw_aload_n dX7_does_145 rfl ?_
          refine pw_aload_n dX7_does_146 rfl ?_
          refine q_gR hf rfl (by decide) w9_X7_does_X7 (by decide +kernel) dX7_does_147 (fun x11 hf => ?_)
          refine pw_iconst (v := (0)) dX7_does_150 (by decide) ?_
          refine q_iald hf dX7_does_151 (fun x12 hf => ?_)
          refine q_callV_iw (kc2 := 0) (ks2 := 0) (as := [.int x12]) (rest := []) hf (fun x9 e9 => t_X7_draw e9) gX7_does_X7_draw rfl hd9_X7_draw rfl rfl ⟨(by decide), by decide⟩ ⟨rfl, rfl⟩ (Nat.le_of_ble_eq_true rfl) dX7_does_152 rfl (fun x13 hf => ?_)
          refine pw_iconst (v := (1)) dX7_does_155 (by decide) ?_
          refine pw_iadd dX7_does_156 ?_
          refine pw_istore_n dX7_does_157 (by decide) rfl ?_
          dsimp only [lset, lset2, clr]
          refine pw_aload_n dX7_does_158 rfl ?_
          refine q_gR hf rfl (by decide) w9_X7_does_X7 (by decide +kernel) dX7_does_159 (fun x14 hf => ?_)
          refine pw_iconst (v := (3)) dX7_does_162 (by decide) ?_
          refine pw_iload_n dX7_does_163 rfl ?_
          refine pw_iadd dX7_does_164 ?_
          refine q_iald hf dX7_does_165 (fun x15 hf => ?_)
          refine q_if_le (tgt := 180) hf dX7_does_166 (by decide) (fun hf _ => ?_) (fun hf _ => ?_)
          · refine pw_iload_n dX7_does_180 rfl ?_
            refine pw_iload_n dX7_does_181 rfl ?_
            refine pw_iadd dX7_does_182 ?_
            refine pw_aload_n dX7_does_183 rfl ?_
            refine q_gR hf rfl (by decide) w9_X7_does_X7 (by decide +kernel) dX7_does_184 (fun x16 hf => ?_)
            refine pw_iconst (v := (0)) dX7_does_187 (by decide) ?_
            refine q_iald hf dX7_does_188 (fun x17 hf => ?_)
            refine q_icmp_gt (tgt := 204) hf dX7_does_189 (by decide) (fun hf _ => ?_) (fun hf _ => ?_)
            · refine pw_iconst (v := (0)) dX7_does_204 (by decide) ?_
              exact pw_iret (x := (0 : Int32)) rfl rfl dX7_does_205 (ret_iw hf)
            · refine pw_aload_n dX7_does_192 rfl ?_
              refine q_gR hf rfl (by decide) w9_X7_does_X7 (by decide +kernel) dX7_does_193 (fun x18 hf => ?_)
              refine pw_iload_n dX7_does_196 rfl ?_
              refine pw_iload_n dX7_does_197 rfl ?_
              refine q_callS_i (kc2 := 0) (ks2 := 0) (as := [.ref x18, .int x10, .int (x13.1 + (1 : Int32))]) (rest := []) hf (fun x9 e9 => t_X7_mayPin e9) gX7_does_X7_mayPin rfl hd9_X7_mayPin rfl ⟨(by decide), by decide⟩ ⟨rfl, rfl⟩ (Nat.le_of_ble_eq_true rfl) dX7_does_198 rfl (fun x19 hf => ?_)
              refine q_if_ne (tgt := 206) hf dX7_does_201 (by decide) (fun hf _ => ?_) (fun hf _ => ?_)
              · refine pw_aload_n dX7_does_206 rfl ?_
                refine q_gR hf rfl (by decide) w9_X7_does_X7 (by decide +kernel) dX7_does_207 (fun x20 hf => ?_)
                refine pw_iconst (v := (3)) dX7_does_210 (by decide) ?_
                refine pw_iload_n dX7_does_211 rfl ?_
                refine pw_iadd dX7_does_212 ?_
                refine pw_iload_n dX7_does_213 rfl ?_
                refine q_iast hf dX7_does_214 (fun h21 hf => ?_)
                refine pw_iconst (v := (1)) dX7_does_215 (by decide) ?_
                exact pw_iret (x := (1 : Int32)) rfl rfl dX7_does_216 (ret_iw hf)
              · refine pw_iconst (v := (0)) dX7_does_204 (by decide) ?_
                exact pw_iret (x := (0 : Int32)) rfl rfl dX7_does_205 (ret_iw hf)
          · refine pw_aload_n dX7_does_169 rfl ?_
            refine q_gR hf rfl (by decide) w9_X7_does_X7 (by decide +kernel) dX7_does_170 (fun x22 hf => ?_)
            refine pw_iconst (v := (3)) dX7_does_173 (by decide) ?_
            refine pw_iload_n dX7_does_174 rfl ?_
            refine pw_iadd dX7_does_175 ?_
            refine pw_iconst (v := (0)) dX7_does_176 (by decide) ?_
            refine q_iast hf dX7_does_177 (fun h23 hf => ?_)
            refine pw_iconst (v := (1)) dX7_does_178 (by decide) ?_
            exact pw_iret (x := (1 : Int32)) rfl rfl dX7_does_179 (ret_iw hf)
        · refine pw_iconst (v := (0)) dX7_does_125 (by decide) ?_
          exact pw_iret (x := (0 : Int32)) rfl rfl dX7_does_126 (ret_iw hf)
      · refine pw_aload_n dX7_does_74 rfl ?_
        refine pw_bipush (v := (15)) dX7_does_75 (by decide) ?_
        refine q_callV_iw (kc2 := 0) (ks2 := 0) (as := [.int (15 : Int32)]) (rest := []) hf (fun x9 e9 => t_X7_draw e9) gX7_does_X7_draw rfl hd9_X7_draw rfl rfl ⟨(by decide), by decide⟩ ⟨rfl, rfl⟩ (Nat.le_of_ble_eq_true rfl) dX7_does_77 rfl (fun x24 hf => ?_)
        refine pw_iconst (v := (1)) dX7_does_80 (by decide) ?_
        refine pw_iadd dX7_does_81 ?_
        refine pw_istore_n dX7_does_82 (by decide) rfl ?_
        dsimp only [lset, lset2, clr]
        refine pw_aload_n dX7_does_83 rfl ?_
        refine pw_iload_n dX7_does_84 rfl ?_
        refine pw_aload_n dX7_does_85 rfl ?_
        refine q_gR hf rfl (by decide) w9_X7_does_X7 (by decide +kernel) dX7_does_86 (fun x25 hf => ?_)
        refine pw_iload_n dX7_does_89 rfl ?_
        refine q_callS_i (kc2 := 0) (ks2 := 0) (as := [.ref x25, .int (x24.1 + (1 : Int32))]) (rest := [.int (x24.1 + (1 : Int32)), .ref a0]) hf (fun x9 e9 => t_X7_isTold e9) gX7_does_X7_isTold rfl hd9_X7_isTold rfl ⟨(by decide), by decide⟩ ⟨rfl, rfl⟩ (Nat.le_of_ble_eq_true rfl) dX7_does_90 rfl (fun x26 hf => ?_)
        refine q_if_ne (tgt := 100) hf dX7_does_93 (by decide) (fun hf _ => ?_) (fun hf _ => ?_)
        · refine pw_iconst (v := (0)) dX7_does_100 (by decide) ?_
          refine q_callV_i (kc2 := 0) (ks2 := 0) (as := [.int (x24.1 + (1 : Int32)), .int (0 : Int32)]) (rest := []) hf (fun x9 e9 => t_X7_mayPair e9) gX7_does_X7_mayPair rfl hd9_X7_mayPair rfl rfl ⟨(by decide), by decide⟩ ⟨rfl, rfl⟩ (Nat.le_of_ble_eq_true rfl) dX7_does_101 rfl (fun x27 hf => ?_)
          refine q_if_ne (tgt := 109) hf dX7_does_104 (by decide) (fun hf _ => ?_) (fun hf _ => ?_)
          · refine pw_aload_n dX7_does_109 rfl ?_
            refine pw_iload_n dX7_does_110 rfl ?_
            refine q_callV_v (kc2 := 0) (ks2 := 0) (as := [.int (x24.1 + (1 : Int32))]) (rest := []) hf (fun x9 e9 => t_X7_turns e9) gX7_does_X7_turns rfl hd9_X7_turns rfl rfl ⟨(by decide), by decide⟩ ⟨rfl, rfl⟩ (Nat.le_of_ble_eq_true rfl) dX7_does_111 rfl (fun h28 hf => ?_)
            refine pw_iconst (v := (1)) dX7_does_114 (by decide) ?_
            exact pw_iret (x := (1 : Int32)) rfl rfl dX7_does_115 (ret_iw hf)
          · refine pw_iconst (v := (0)) dX7_does_107 (by decide) ?_
            exact pw_iret (x := (0 : Int32)) rfl rfl dX7_does_108 (ret_iw hf)
        · refine pw_iconst (v := (1)) dX7_does_96 (by decide) ?_
          refine pw_goto (tgt := 101) dX7_does_97 (by decide) ?_
          refine q_callV_i (kc2 := 0) (ks2 := 0) (as := [.int (x24.1 + (1 : Int32)), .int (1 : Int32)]) (rest := []) hf (fun x9 e9 => t_X7_mayPair e9) gX7_does_X7_mayPair rfl hd9_X7_mayPair rfl rfl ⟨(by decide), by decide⟩ ⟨rfl, rfl⟩ (Nat.le_of_ble_eq_true rfl) dX7_does_101 rfl (fun x29 hf => ?_)
          refine q_if_ne (tgt := 109) hf dX7_does_104 (by decide) (fun hf _ => ?_) (fun hf _ => ?_)
          · refine pw_aload_n dX7_does_109 rfl ?_
            refine pw_iload_n dX7_does_110 rfl ?_
            refine q_callV_v (kc2 := 0) (ks2 := 0) (as := [.int (x24.1 + (1 : Int32))]) (rest := []) hf (fun x9 e9 => t_X7_turns e9) gX7_does_X7_turns rfl hd9_X7_turns rfl rfl ⟨(by decide), by decide⟩ ⟨rfl, rfl⟩ (Nat.le_of_ble_eq_true rfl) dX7_does_111 rfl (fun h30 hf => ?_)
            refine pw_iconst (v := (1)) dX7_does_114 (by decide) ?_
            exact pw_iret (x := (1 : Int32)) rfl rfl dX7_does_115 (ret_iw hf)
          · refine pw_iconst (v := (0)) dX7_does_107 (by decide) ?_
            exact pw_iret (x := (0 : Int32)) rfl rfl dX7_does_108 (ret_iw hf)
    · refine pw_aload_n dX7_does_21 rfl ?_
      refine pw_aload_n dX7_does_22 rfl ?_
      refine q_gR hf rfl (by decide) w9_X7_does_X7 (by decide +kernel) dX7_does_23 (fun x31 hf => ?_)
      refine pw_iconst (v := (0)) dX7_does_26 (by decide) ?_
      refine q_iald hf dX7_does_27 (fun x32 hf => ?_)
      refine q_callV_iw (kc2 := 0) (ks2 := 0) (as := [.int x32]) (rest := []) hf (fun x9 e9 => t_X7_draw e9) gX7_does_X7_draw rfl hd9_X7_draw rfl rfl ⟨(by decide), by decide⟩ ⟨rfl, rfl⟩ (Nat.le_of_ble_eq_true rfl) dX7_does_28 rfl (fun x33 hf => ?_)
      refine pw_iconst (v := (1)) dX7_does_31 (by decide) ?_
      refine pw_iadd dX7_does_32 ?_
      refine pw_istore_n dX7_does_33 (by decide) rfl ?_
      dsimp only [lset, lset2, clr]
      refine pw_aload_n dX7_does_34 rfl ?_
      refine q_gR hf rfl (by decide) w9_X7_does_X7 (by decide +kernel) dX7_does_35 (fun x34 hf => ?_)
      refine pw_iconst (v := (0)) dX7_does_38 (by decide) ?_
      refine q_callS_i (kc2 := 0) (ks2 := 0) (as := [.ref x34, .int (0 : Int32)]) (rest := []) hf (fun x9 e9 => t_X7_pins e9) gX7_does_X7_pins rfl hd9_X7_pins rfl ⟨(by decide), by decide⟩ ⟨rfl, rfl⟩ (Nat.le_of_ble_eq_true rfl) dX7_does_39 rfl (fun x35 hf => ?_)
      refine pw_iload_n dX7_does_42 rfl ?_
      refine pw_iconst (v := (1)) dX7_does_43 (by decide) ?_
      refine pw_isub dX7_does_44 ?_
      refine q_callS_i (kc2 := 0) (ks2 := 0) (as := [.int x35, .int ((x33.1 + (1 : Int32)) - (1 : Int32))]) (rest := []) hf (fun x9 e9 => t_X7_has e9) gX7_does_X7_has rfl hd9_X7_has rfl ⟨(by decide), by decide⟩ ⟨rfl, rfl⟩ (Nat.le_of_ble_eq_true rfl) dX7_does_45 rfl (fun x36 hf => ?_)
      refine q_if_eq (tgt := 53) hf dX7_does_48 (by decide) (fun hf _ => ?_) (fun hf _ => ?_)
      · refine pw_aload_n dX7_does_53 rfl ?_
        refine q_gR hf rfl (by decide) w9_X7_does_X7 (by decide +kernel) dX7_does_54 (fun x37 hf => ?_)
        refine pw_iconst (v := (1)) dX7_does_57 (by decide) ?_
        refine pw_dup2 dX7_does_58 ⟨rfl, rfl⟩ ?_
        refine q_iald hf dX7_does_59 (fun x38 hf => ?_)
        refine pw_iconst (v := (1)) dX7_does_60 (by decide) ?_
        refine pw_iload_n dX7_does_61 rfl ?_
        refine pw_iconst (v := (1)) dX7_does_62 (by decide) ?_
        refine pw_isub dX7_does_63 ?_
        refine pw_ishl dX7_does_64 ?_
        refine pw_ixor dX7_does_65 ?_
        refine q_iast hf dX7_does_66 (fun h39 hf => ?_)
        refine pw_iconst (v := (1)) dX7_does_67 (by decide) ?_
        exact pw_iret (x := (1 : Int32)) rfl rfl dX7_does_68 (ret_iw hf)
      · refine pw_iconst (v := (0)) dX7_does_51 (by decide) ?_
        exact pw_iret (x := (0 : Int32)) rfl rfl dX7_does_52 (ret_iw hf)
  · refine pw_iconst (v := (0)) dX7_does_15 (by decide) ?_
    exact pw_iret (x := (0 : Int32)) rfl rfl dX7_does_16 (ret_iw hf)
/-! X7_drawn -/
abbrev m_X7_drawn : MD := (cX7_drawn, RX7, "drawn", wsX7_drawn, 5, (some .int))
theorem w9_X7_drawn_X7 : ∀ w ∈ u_ws RX7 TX7 31, w ∈ wsX7_drawn := by decide +kernel
theorem hd9_X7_drawn : yX7_drawn.cls = RX7 ∧ yX7_drawn.cls ≠ "java/lang/invoke/MethodHandle" ∧ yX7_drawn.cls ≠ "java/lang/invoke/VarHandle" ∧ (parseMethodDescriptor yX7_drawn.desc).map (fun d => d.parameters.length) = some 2 := by decide +kernel
def f_X7_drawn_40 : Nat → Nat → Int32 → Int32 → Int32 → Hp → Option (Int32 × Hp)
  | 0, _, _, _, _, _ => none
  | n + 1, v0, v1, v3, v4, h => if v1 ≤ v4 then (if v3 ≤ 0 then (some ((v3, h))) else (if oK h v0 7 = true then (f_X7_stay h v0).bind fun h1 => some ((v3, h1)) else none)) else (if oK h v0 7 = true then (f_X7_does h v0).bind fun x2 => if x2.1 = 0 then (f_X7_drawn_40 n v0 v1 v3 (v4 + (1)) x2.2) else (f_X7_drawn_40 n v0 v1 (v3 + (1)) (v4 + (1)) x2.2) else none)
set_option maxHeartbeats 4000000 in
set_option maxRecDepth 100000 in
theorem w_X7_drawn_40 {g : GT} {l : Launch} {r : (Int32 × Hp)} : ∀ (n : Nat) (v0 : Nat) (v1 : Int32) (v3 : Int32) (v4 : Int32) (h : Hp), f_X7_drawn_40 n v0 v1 v3 v4 h = some r → PW g l m_X7_drawn 6 0 0 40 [some (.ref v0), some (.int v1), none, some (.int v3), some (.int v4)] [] h (fun r9 h9 => r9 = some (.int r.1) ∧ h9 = r.2) := by
  intro n
  induction n with
  | zero => intro v0 v1 v3 v4 h hf; cases hf
  | succ n ih =>
    intro v0 v1 v3 v4 h hf
    rw [f_X7_drawn_40] at hf
    refine pw_iload dX7_drawn_40 rfl ?_
    refine pw_iload_n dX7_drawn_42 rfl ?_
    refine q_icmp_ge (tgt := 62) hf dX7_drawn_43 (by decide) (fun hf _ => ?_) (fun hf _ => ?_)
    · refine pw_iload_n dX7_drawn_62 rfl ?_
      refine q_if_le (tgt := 70) hf dX7_drawn_63 (by decide) (fun hf _ => ?_) (fun hf _ => ?_)
      · refine pw_iload_n dX7_drawn_70 rfl ?_
        exact pw_iret (x := v3) rfl rfl dX7_drawn_71 (ret_iw hf)
      · refine pw_aload_n dX7_drawn_66 rfl ?_
        refine q_callV_v (kc2 := 0) (ks2 := 0) (as := []) (rest := []) hf (fun x9 e9 => t_X7_stay e9) gX7_drawn_X7_stay rfl hd9_X7_stay rfl rfl ⟨(by decide), by decide⟩ ⟨rfl, rfl⟩ (Nat.le_of_ble_eq_true rfl) dX7_drawn_67 rfl (fun h1 hf => ?_)
        refine pw_iload_n dX7_drawn_70 rfl ?_
        exact pw_iret (x := v3) rfl rfl dX7_drawn_71 (ret_iw hf)
    · refine pw_aload_n dX7_drawn_46 rfl ?_
      refine q_callV_iw (kc2 := 0) (ks2 := 0) (as := []) (rest := []) hf (fun x9 e9 => t_X7_does e9) gX7_drawn_X7_does rfl hd9_X7_does rfl rfl ⟨(by decide), by decide⟩ ⟨rfl, rfl⟩ (Nat.le_of_ble_eq_true rfl) dX7_drawn_47 rfl (fun x2 hf => ?_)
      refine q_if_eq (tgt := 56) hf dX7_drawn_50 (by decide) (fun hf _ => ?_) (fun hf _ => ?_)
      · refine pw_iinc (v := v4 + (1)) dX7_drawn_56 rfl rfl (by decide) rfl ?_
        dsimp only [lset, lset2, clr]
        refine pw_goto (tgt := 40) dX7_drawn_59 (by decide) ?_
        exact pw_lo (lle_s rfl (lle_s rfl (lle_n (lle_s rfl (lle_s rfl lle_0))))) (ih _ _ _ _ _ hf)
      · refine pw_iinc (v := v3 + (1)) dX7_drawn_53 rfl rfl (by decide) rfl ?_
        dsimp only [lset, lset2, clr]
        refine pw_iinc (v := v4 + (1)) dX7_drawn_56 rfl rfl (by decide) rfl ?_
        dsimp only [lset, lset2, clr]
        refine pw_goto (tgt := 40) dX7_drawn_59 (by decide) ?_
        exact pw_lo (lle_s rfl (lle_s rfl (lle_n (lle_s rfl (lle_s rfl lle_0))))) (ih _ _ _ _ _ hf)
def f_X7_drawn (h : Hp) (a0 : Nat) (a1 : Int32) (a2 : Int32) : Option (Int32 × Hp) := (pV h a0 7 0 (.int (0 : Int32))).bind fun h1 => (f_X7_isIn h1 a1 (1 : Int32) (60 : Int32)).bind fun x2 => if x2 = 0 then (some (((-1 : Int32), h1))) else ((gR h1 a0 7 11).bind fun x3 => (gR h1 a0 7 15).bind fun x4 => (f_X7_copy h1 x3 (0 : Int32) x4 (0 : Int32)).bind fun h5 => (pV h5 a0 7 30 (.int a2)).bind fun h6 => f_X7_drawn_40 4096 a0 a1 (0 : Int32) (0 : Int32) h6)
set_option maxHeartbeats 4000000 in
set_option maxRecDepth 100000 in
theorem t_X7_drawn {g : GT} {l : Launch} {h : Hp} {a0 : Nat} {a1 : Int32} {a2 : Int32} {r : (Int32 × Hp)} (hf : f_X7_drawn h a0 a1 a2 = some r) : PM g l 6 0 0 yX7_drawn wsX7_drawn [.ref a0, .int a1, .int a2] h (fun r9 h9 => r9 = some (.int r.1) ∧ h9 = r.2) := by
  refine pm_of (M := m_X7_drawn) (by decide) rfl rfl rfl (Nat.le_of_ble_eq_true rfl) (lo := [some (.ref a0), some (.int a1), some (.int a2), none, none]) rfl ?_
  rw [f_X7_drawn] at hf
  refine pw_aload_n dX7_drawn_0 rfl ?_
  refine pw_iconst (v := (0)) dX7_drawn_1 (by decide) ?_
  refine q_pV (ty := .int) hf tyX7 tyX7_ok nmX7 rfl (by decide) w9_X7_drawn_X7 (by decide +kernel) rfl (by decide +kernel) rfl rfl dX7_drawn_2 (fun h1 hf => ?_)
  refine pw_iload_n dX7_drawn_5 rfl ?_
  refine pw_iconst (v := (1)) dX7_drawn_6 (by decide) ?_
  refine pw_bipush (v := (60)) dX7_drawn_7 (by decide) ?_
  refine q_callS_i (kc2 := 0) (ks2 := 0) (as := [.int a1, .int (1 : Int32), .int (60 : Int32)]) (rest := []) hf (fun x9 e9 => t_X7_isIn e9) gX7_drawn_X7_isIn rfl hd9_X7_isIn rfl ⟨(by decide), by decide⟩ ⟨rfl, rfl⟩ (Nat.le_of_ble_eq_true rfl) dX7_drawn_9 rfl (fun x2 hf => ?_)
  refine q_if_ne (tgt := 17) hf dX7_drawn_12 (by decide) (fun hf _ => ?_) (fun hf _ => ?_)
  · refine pw_aload_n dX7_drawn_17 rfl ?_
    refine q_gR hf rfl (by decide) w9_X7_drawn_X7 (by decide +kernel) dX7_drawn_18 (fun x3 hf => ?_)
    refine pw_iconst (v := (0)) dX7_drawn_21 (by decide) ?_
    refine pw_aload_n dX7_drawn_22 rfl ?_
    refine q_gR hf rfl (by decide) w9_X7_drawn_X7 (by decide +kernel) dX7_drawn_23 (fun x4 hf => ?_)
    refine pw_iconst (v := (0)) dX7_drawn_26 (by decide) ?_
    refine q_callS_v (kc2 := 0) (ks2 := 0) (as := [.ref x3, .int (0 : Int32), .ref x4, .int (0 : Int32)]) (rest := []) hf (fun x9 e9 => t_X7_copy e9) gX7_drawn_X7_copy rfl hd9_X7_copy rfl ⟨(by decide), by decide⟩ ⟨rfl, rfl⟩ (Nat.le_of_ble_eq_true rfl) dX7_drawn_27 rfl (fun h5 hf => ?_)
    refine pw_aload_n dX7_drawn_30 rfl ?_
    refine pw_iload_n dX7_drawn_31 rfl ?_
    refine q_pV (ty := .int) hf tyX7 tyX7_ok nmX7 rfl (by decide) w9_X7_drawn_X7 (by decide +kernel) rfl (by decide +kernel) rfl rfl dX7_drawn_32 (fun h6 hf => ?_)
    refine pw_iconst (v := (0)) dX7_drawn_35 (by decide) ?_
    refine pw_istore_n dX7_drawn_36 (by decide) rfl ?_
    dsimp only [lset, lset2, clr]
    refine pw_iconst (v := (0)) dX7_drawn_37 (by decide) ?_
    refine pw_istore dX7_drawn_38 (by decide) rfl ?_
    dsimp only [lset, lset2, clr]
    exact pw_lo (lle_s rfl (lle_s rfl (lle_n (lle_s rfl (lle_s rfl lle_0))))) (w_X7_drawn_40 4096 _ _ _ _ _ hf)
  · refine pw_iconst (v := (-1)) dX7_drawn_15 (by decide) ?_
    exact pw_iret (x := (-1 : Int32)) rfl rfl dX7_drawn_16 (ret_iw hf)
/-! X7_undo -/
abbrev m_X7_undo : MD := (cX7_undo, RX7, "undo", wsX7_undo, 1, (some .int))
theorem w9_X7_undo_X7 : ∀ w ∈ u_ws RX7 TX7 31, w ∈ wsX7_undo := by decide +kernel
theorem hd9_X7_undo : yX7_undo.cls = RX7 ∧ yX7_undo.cls ≠ "java/lang/invoke/MethodHandle" ∧ yX7_undo.cls ≠ "java/lang/invoke/VarHandle" ∧ (parseMethodDescriptor yX7_undo.desc).map (fun d => d.parameters.length) = some 0 := by decide +kernel
def f_X7_undo (h : Hp) (a0 : Nat) : Option (Int32 × Hp) := (pV h a0 7 0 (.int (0 : Int32))).bind fun h1 => (gI h1 a0 7 19).bind fun x2 => if x2 = 0 then (some (((-1 : Int32), h1))) else ((gI h1 a0 7 19).bind fun x3 => (pV h1 a0 7 19 (.int (x3 - (1 : Int32)))).bind fun h4 => (gR h4 a0 7 14).bind fun x5 => (gI h4 a0 7 19).bind fun x6 => (gR h4 a0 7 11).bind fun x7 => (f_X7_copy h4 x5 ((19 : Int32) * x6) x7 (0 : Int32)).bind fun h8 => (gI h8 a0 7 19).bind fun x9 => some ((x9, h8)))
set_option maxHeartbeats 4000000 in
set_option maxRecDepth 100000 in
theorem t_X7_undo {g : GT} {l : Launch} {h : Hp} {a0 : Nat} {r : (Int32 × Hp)} (hf : f_X7_undo h a0 = some r) : PM g l 2 0 0 yX7_undo wsX7_undo [.ref a0] h (fun r9 h9 => r9 = some (.int r.1) ∧ h9 = r.2) := by
  refine pm_of (M := m_X7_undo) (by decide) rfl rfl rfl (Nat.le_of_ble_eq_true rfl) (lo := [some (.ref a0)]) rfl ?_
  rw [f_X7_undo] at hf
  refine pw_aload_n dX7_undo_0 rfl ?_
  refine pw_iconst (v := (0)) dX7_undo_1 (by decide) ?_
  refine q_pV (ty := .int) hf tyX7 tyX7_ok nmX7 rfl (by decide) w9_X7_undo_X7 (by decide +kernel) rfl (by decide +kernel) rfl rfl dX7_undo_2 (fun h1 hf => ?_)
  refine pw_aload_n dX7_undo_5 rfl ?_
  refine q_gI hf rfl (by decide) w9_X7_undo_X7 (by decide +kernel) dX7_undo_6 (fun x2 hf => ?_)
  refine q_if_ne (tgt := 14) hf dX7_undo_9 (by decide) (fun hf _ => ?_) (fun hf _ => ?_)
  · refine pw_aload_n dX7_undo_14 rfl ?_
    refine pw_dup dX7_undo_15 rfl ?_
    refine q_gI hf rfl (by decide) w9_X7_undo_X7 (by decide +kernel) dX7_undo_16 (fun x3 hf => ?_)
    refine pw_iconst (v := (1)) dX7_undo_19 (by decide) ?_
    refine pw_isub dX7_undo_20 ?_
    refine q_pV (ty := .int) hf tyX7 tyX7_ok nmX7 rfl (by decide) w9_X7_undo_X7 (by decide +kernel) rfl (by decide +kernel) rfl rfl dX7_undo_21 (fun h4 hf => ?_)
    refine pw_aload_n dX7_undo_24 rfl ?_
    refine q_gR hf rfl (by decide) w9_X7_undo_X7 (by decide +kernel) dX7_undo_25 (fun x5 hf => ?_)
    refine pw_bipush (v := (19)) dX7_undo_28 (by decide) ?_
    refine pw_aload_n dX7_undo_30 rfl ?_
    refine q_gI hf rfl (by decide) w9_X7_undo_X7 (by decide +kernel) dX7_undo_31 (fun x6 hf => ?_)
    refine pw_imul dX7_undo_34 ?_
    refine pw_aload_n dX7_undo_35 rfl ?_
    refine q_gR hf rfl (by decide) w9_X7_undo_X7 (by decide +kernel) dX7_undo_36 (fun x7 hf => ?_)
    refine pw_iconst (v := (0)) dX7_undo_39 (by decide) ?_
    refine q_callS_v (kc2 := 0) (ks2 := 0) (as := [.ref x5, .int ((19 : Int32) * x6), .ref x7, .int (0 : Int32)]) (rest := []) hf (fun x9 e9 => t_X7_copy e9) gX7_undo_X7_copy rfl hd9_X7_copy rfl ⟨(by decide), by decide⟩ ⟨rfl, rfl⟩ (Nat.le_of_ble_eq_true rfl) dX7_undo_40 rfl (fun h8 hf => ?_)
    refine pw_aload_n dX7_undo_43 rfl ?_
    refine q_gI hf rfl (by decide) w9_X7_undo_X7 (by decide +kernel) dX7_undo_44 (fun x9 hf => ?_)
    exact pw_iret (x := x9) rfl rfl dX7_undo_47 (ret_iw hf)
  · refine pw_iconst (v := (-1)) dX7_undo_12 (by decide) ?_
    exact pw_iret (x := (-1 : Int32)) rfl rfl dX7_undo_13 (ret_iw hf)
/-! X7_image -/
abbrev m_X7_image : MD := (cX7_image, RX7, "image", wsX7_image, 2, (some .boolean))
theorem w9_X7_image_X7 : ∀ w ∈ u_ws RX7 TX7 31, w ∈ wsX7_image := by decide +kernel
theorem hd9_X7_image : yX7_image.cls = RX7 ∧ yX7_image.cls ≠ "java/lang/invoke/MethodHandle" ∧ yX7_image.cls ≠ "java/lang/invoke/VarHandle" ∧ (parseMethodDescriptor yX7_image.desc).map (fun d => d.parameters.length) = some 1 := by decide +kernel
def f_X7_image (h : Hp) (a0 : Nat) (a1 : Int32) : Option (Int32 × Hp) := (pV h a0 7 0 (.int (0 : Int32))).bind fun h1 => (f_X7_isIn h1 a1 (0 : Int32) (1 : Int32)).bind fun x2 => if x2 = 0 then (some (((0 : Int32), h1))) else ((gR h1 a0 7 11).bind fun x3 => (gR h1 a0 7 13).bind fun x4 => (f_X7_copy h1 x3 (0 : Int32) x4 ((19 : Int32) * a1)).bind fun h5 => (gR h5 a0 7 18).bind fun x6 => (sI h5 3 x6 a1 (vp_nar .boolean (1 : Int32))).bind fun h7 => some (((1 : Int32), h7)))
set_option maxHeartbeats 4000000 in
set_option maxRecDepth 100000 in
theorem t_X7_image {g : GT} {l : Launch} {h : Hp} {a0 : Nat} {a1 : Int32} {r : (Int32 × Hp)} (hf : f_X7_image h a0 a1 = some r) : PM g l 2 0 0 yX7_image wsX7_image [.ref a0, .int a1] h (fun r9 h9 => r9 = some (.int r.1) ∧ h9 = r.2) := by
  refine pm_of (M := m_X7_image) (by decide) rfl rfl rfl (Nat.le_of_ble_eq_true rfl) (lo := [some (.ref a0), some (.int a1)]) rfl ?_
  rw [f_X7_image] at hf
  refine pw_aload_n dX7_image_0 rfl ?_
  refine pw_iconst (v := (0)) dX7_image_1 (by decide) ?_
  refine q_pV (ty := .int) hf tyX7 tyX7_ok nmX7 rfl (by decide) w9_X7_image_X7 (by decide +kernel) rfl (by decide +kernel) rfl rfl dX7_image_2 (fun h1 hf => ?_)
  refine pw_iload_n dX7_image_5 rfl ?_
  refine pw_iconst (v := (0)) dX7_image_6 (by decide) ?_
  refine pw_iconst (v := (1)) dX7_image_7 (by decide) ?_
  refine q_callS_i (kc2 := 0) (ks2 := 0) (as := [.int a1, .int (0 : Int32), .int (1 : Int32)]) (rest := []) hf (fun x9 e9 => t_X7_isIn e9) gX7_image_X7_isIn rfl hd9_X7_isIn rfl ⟨(by decide), by decide⟩ ⟨rfl, rfl⟩ (Nat.le_of_ble_eq_true rfl) dX7_image_8 rfl (fun x2 hf => ?_)
  refine q_if_ne (tgt := 16) hf dX7_image_11 (by decide) (fun hf _ => ?_) (fun hf _ => ?_)
  · refine pw_aload_n dX7_image_16 rfl ?_
    refine q_gR hf rfl (by decide) w9_X7_image_X7 (by decide +kernel) dX7_image_17 (fun x3 hf => ?_)
    refine pw_iconst (v := (0)) dX7_image_20 (by decide) ?_
    refine pw_aload_n dX7_image_21 rfl ?_
    refine q_gR hf rfl (by decide) w9_X7_image_X7 (by decide +kernel) dX7_image_22 (fun x4 hf => ?_)
    refine pw_bipush (v := (19)) dX7_image_25 (by decide) ?_
    refine pw_iload_n dX7_image_27 rfl ?_
    refine pw_imul dX7_image_28 ?_
    refine q_callS_v (kc2 := 0) (ks2 := 0) (as := [.ref x3, .int (0 : Int32), .ref x4, .int ((19 : Int32) * a1)]) (rest := []) hf (fun x9 e9 => t_X7_copy e9) gX7_image_X7_copy rfl hd9_X7_copy rfl ⟨(by decide), by decide⟩ ⟨rfl, rfl⟩ (Nat.le_of_ble_eq_true rfl) dX7_image_29 rfl (fun h5 hf => ?_)
    refine pw_aload_n dX7_image_32 rfl ?_
    refine q_gR hf rfl (by decide) w9_X7_image_X7 (by decide +kernel) dX7_image_33 (fun x6 hf => ?_)
    refine pw_iload_n dX7_image_36 rfl ?_
    refine pw_iconst (v := (1)) dX7_image_37 (by decide) ?_
    refine q_zast hf dX7_image_38 (fun h7 hf => ?_)
    refine pw_iconst (v := (1)) dX7_image_39 (by decide) ?_
    exact pw_iret (x := (1 : Int32)) rfl rfl dX7_image_40 (ret_iw hf)
  · refine pw_iconst (v := (0)) dX7_image_14 (by decide) ?_
    exact pw_iret (x := (0 : Int32)) rfl rfl dX7_image_15 (ret_iw hf)
/-! X7_restore -/
abbrev m_X7_restore : MD := (cX7_restore, RX7, "restore", wsX7_restore, 2, (some .boolean))
theorem w9_X7_restore_X7 : ∀ w ∈ u_ws RX7 TX7 31, w ∈ wsX7_restore := by decide +kernel
theorem hd9_X7_restore : yX7_restore.cls = RX7 ∧ yX7_restore.cls ≠ "java/lang/invoke/MethodHandle" ∧ yX7_restore.cls ≠ "java/lang/invoke/VarHandle" ∧ (parseMethodDescriptor yX7_restore.desc).map (fun d => d.parameters.length) = some 1 := by decide +kernel
def f_X7_restore (h : Hp) (a0 : Nat) (a1 : Int32) : Option (Int32 × Hp) := (pV h a0 7 0 (.int (0 : Int32))).bind fun h1 => (f_X7_isIn h1 a1 (0 : Int32) (1 : Int32)).bind fun x2 => if x2 = 0 then (some (((0 : Int32), h1))) else ((gR h1 a0 7 18).bind fun x3 => (aI h1 3 x3 a1).bind fun x4 => if x4 = 0 then (some (((0 : Int32), h1))) else ((gR h1 a0 7 13).bind fun x5 => (gR h1 a0 7 11).bind fun x6 => (f_X7_copy h1 x5 ((19 : Int32) * a1) x6 (0 : Int32)).bind fun h7 => (pV h7 a0 7 19 (.int (0 : Int32))).bind fun h8 => some (((1 : Int32), h8))))
set_option maxHeartbeats 4000000 in
set_option maxRecDepth 100000 in
theorem t_X7_restore {g : GT} {l : Launch} {h : Hp} {a0 : Nat} {a1 : Int32} {r : (Int32 × Hp)} (hf : f_X7_restore h a0 a1 = some r) : PM g l 2 0 0 yX7_restore wsX7_restore [.ref a0, .int a1] h (fun r9 h9 => r9 = some (.int r.1) ∧ h9 = r.2) := by
  refine pm_of (M := m_X7_restore) (by decide) rfl rfl rfl (Nat.le_of_ble_eq_true rfl) (lo := [some (.ref a0), some (.int a1)]) rfl ?_
  rw [f_X7_restore] at hf
  refine pw_aload_n dX7_restore_0 rfl ?_
  refine pw_iconst (v := (0)) dX7_restore_1 (by decide) ?_
  refine q_pV (ty := .int) hf tyX7 tyX7_ok nmX7 rfl (by decide) w9_X7_restore_X7 (by decide +kernel) rfl (by decide +kernel) rfl rfl dX7_restore_2 (fun h1 hf => ?_)
  refine pw_iload_n dX7_restore_5 rfl ?_
  refine pw_iconst (v := (0)) dX7_restore_6 (by decide) ?_
  refine pw_iconst (v := (1)) dX7_restore_7 (by decide) ?_
  refine q_callS_i (kc2 := 0) (ks2 := 0) (as := [.int a1, .int (0 : Int32), .int (1 : Int32)]) (rest := []) hf (fun x9 e9 => t_X7_isIn e9) gX7_restore_X7_isIn rfl hd9_X7_isIn rfl ⟨(by decide), by decide⟩ ⟨rfl, rfl⟩ (Nat.le_of_ble_eq_true rfl) dX7_restore_8 rfl (fun x2 hf => ?_)
  refine q_if_eq (tgt := 23) hf dX7_restore_11 (by decide) (fun hf _ => ?_) (fun hf _ => ?_)
  · refine pw_iconst (v := (0)) dX7_restore_23 (by decide) ?_
    exact pw_iret (x := (0 : Int32)) rfl rfl dX7_restore_24 (ret_iw hf)
  · refine pw_aload_n dX7_restore_14 rfl ?_
    refine q_gR hf rfl (by decide) w9_X7_restore_X7 (by decide +kernel) dX7_restore_15 (fun x3 hf => ?_)
    refine pw_iload_n dX7_restore_18 rfl ?_
    refine q_zald hf dX7_restore_19 (fun x4 hf => ?_)
    refine q_if_ne (tgt := 25) hf dX7_restore_20 (by decide) (fun hf _ => ?_) (fun hf _ => ?_)
    · refine pw_aload_n dX7_restore_25 rfl ?_
      refine q_gR hf rfl (by decide) w9_X7_restore_X7 (by decide +kernel) dX7_restore_26 (fun x5 hf => ?_)
      refine pw_bipush (v := (19)) dX7_restore_29 (by decide) ?_
      refine pw_iload_n dX7_restore_31 rfl ?_
      refine pw_imul dX7_restore_32 ?_
      refine pw_aload_n dX7_restore_33 rfl ?_
      refine q_gR hf rfl (by decide) w9_X7_restore_X7 (by decide +kernel) dX7_restore_34 (fun x6 hf => ?_)
      refine pw_iconst (v := (0)) dX7_restore_37 (by decide) ?_
      refine q_callS_v (kc2 := 0) (ks2 := 0) (as := [.ref x5, .int ((19 : Int32) * a1), .ref x6, .int (0 : Int32)]) (rest := []) hf (fun x9 e9 => t_X7_copy e9) gX7_restore_X7_copy rfl hd9_X7_copy rfl ⟨(by decide), by decide⟩ ⟨rfl, rfl⟩ (Nat.le_of_ble_eq_true rfl) dX7_restore_38 rfl (fun h7 hf => ?_)
      refine pw_aload_n dX7_restore_41 rfl ?_
      refine pw_iconst (v := (0)) dX7_restore_42 (by decide) ?_
      refine q_pV (ty := .int) hf tyX7 tyX7_ok nmX7 rfl (by decide) w9_X7_restore_X7 (by decide +kernel) rfl (by decide +kernel) rfl rfl dX7_restore_43 (fun h8 hf => ?_)
      refine pw_iconst (v := (1)) dX7_restore_46 (by decide) ?_
      exact pw_iret (x := (1 : Int32)) rfl rfl dX7_restore_47 (ret_iw hf)
    · refine pw_iconst (v := (0)) dX7_restore_23 (by decide) ?_
      exact pw_iret (x := (0 : Int32)) rfl rfl dX7_restore_24 (ret_iw hf)
