/-! the four text constants: they lie outside the small heap; a text is its number -/
def c4 (a : Fin 4) : UInt32 := UInt32.ofNat a.val
def c8 (a : Fin 4) : UInt32 := UInt32.ofNat (a.val + 4)
theorem c4_nat (a : Fin 4) : (c4 a).toNat = a.val := by revert a; decide
theorem c8_nat (a : Fin 4) : (c8 a).toNat = a.val + 4 := by revert a; decide
def tlen (a : Fin 4) : Nat := sLen.getD a.val 0
def tch (a : Fin 4) (j : Nat) : Int32 := (sByt.getD a.val []).getD j 0
theorem tch_c : ∀ (a : Fin 4) (j : Fin 5), ((tch a j.val &&& 255).toUInt32 % 65536).toInt32 = tch a j.val ∧ narrow .char (.int (tch a j.val)) = .int (tch a j.val) := by decide +kernel
theorem tlen_le (a : Fin 4) : tlen a ≤ 5 := by revert a; decide
section PWT
variable {g : GT} {l : Launch} {M : MD} {d kc ks pc : Nat} {lo : List (Option Value)} {st : List Value} {h : Hp} {Q : Option Value → Hp → Prop}
theorem tv4 {U : State} (hK : KX g U) (a : Fin 4) : trV g (.float (c4 a)) = .ref ((g.2.2.2 a.val).getD 0) := by
  obtain ⟨q, hq⟩ := hK.ext (x := a.val) (by omega)
  simp only [trV, c4_nat, hq]
  rfl
theorem tv8 {U : State} (hK : KX g U) (a : Fin 4) : trV g (.float (c8 a)) = .ref ((g.2.2.2 (a.val + 4)).getD 0) := by
  obtain ⟨q, hq⟩ := hK.ext (x := a.val + 4) (by omega)
  simp only [trV, c8_nat, hq]
  rfl
theorem pw_t4_n {k4 : Fin 4} {a : Fin 4} (hdg : decode M.1 pc = .ok (.aload_n k4, 1)) (hx : lo[(k4 : Nat)]? = some (some (.float (c4 a)))) (k : PW g l M d kc ks (pc + 1) lo (.float (c4 a) :: st) h Q) : PW g l M d kc ks pc lo st h Q := pw_tload_n (by rw [c4_nat]; omega) hdg hx k
theorem pw_t8_n {k4 : Fin 4} {a : Fin 4} (hdg : decode M.1 pc = .ok (.aload_n k4, 1)) (hx : lo[(k4 : Nat)]? = some (some (.float (c8 a)))) (k : PW g l M d kc ks (pc + 1) lo (.float (c8 a) :: st) h Q) : PW g l M d kc ks pc lo st h Q := pw_tload_n (by rw [c8_nat]; omega) hdg hx k
theorem pw_ldcS {a : Fin 4} {i : Nat} (hi : sIdx a.val = i) (hown : M.2.1 = "TwinRows$Reader") (hdg : decode M.1 pc = .ok (.ldc i, 2)) (k : PW g l M d kc ks (pc + 2) lo (.float (c4 a) :: st) h Q) : PW g l M d kc ks pc lo st h Q := by
  subst hi
  intro p e R s m args below meth c H locs cells slots ls C hr hl hR hS hz
  have e2 := k p e R s m args below meth c H locs cells slots ls C hr hl hR hS hz
  rw [List.map_cons, tv4 C.2.2.2.2.2.1 a] at e2
  exact va_ldcS C.1 C.2.1 (own := "TwinRows$Reader") (by rw [← hown]; exact C.2.2.2.1) (C.2.2.2.2.2.1.2.2.2.2.1 a.val a.isLt).2 hdg e2
theorem pw_gets {C n ds : String} {v : Value} {i : Nat} (hZ : ∀ s : State, KX g s → va_Z C n ds (trV g v) (fun q => g.1 ≤ q) s s.heap) (hlk : Cond.fieldLink M.2.1 i C n ds ∈ M.2.2.2.1) (hdg : decode M.1 pc = .ok (.getstatic i, 3)) (k : PW g l M d kc ks (pc + 3) lo (v :: st) h Q) : PW g l M d kc ks pc lo st h Q := fun p e R s m args below meth c H locs cells slots ls C hr hl hR hS hz =>
  va_gets C.1 C.2.1 (hZ s C.2.2.2.2.2.1) hS C.2.2.2.1 (C.2.2.2.2.1 _ hlk) (fun _ h => h) hdg (k p e R s m args below meth c H locs cells slots ls C hr hl hR hS hz)
theorem pw_tval {a : Fin 4} {i : Nat} (hlk : Cond.fieldLink M.2.1 i "java/lang/String" "value" "[B" ∈ M.2.2.2.1) (hdg : decode M.1 pc = .ok (.getfield i, 3)) (k : PW g l M d kc ks (pc + 3) lo (.float (c8 a) :: st) h Q) : PW g l M d kc ks pc lo (.float (c4 a) :: st) h Q := by
  intro p e R s m args below meth c H locs cells slots ls C hr hl hR hS hz
  have e2 := k p e R s m args below meth c H locs cells slots ls C hr hl hR hS hz
  rw [List.map_cons, tv8 C.2.2.2.2.2.1 a] at e2
  rw [List.map_cons, tv4 C.2.2.2.2.2.1 a]
  exact vk_getf C.1 C.2.1 (C.2.2.2.2.2.1.2.2.2.2.2.1.1 a.val a.isLt).2.2.1 hS C.2.2.2.1 (C.2.2.2.2.1 _ hlk) (fun _ h => h) hdg e2
theorem pw_tcod {a : Fin 4} {i : Nat} (hlk : Cond.fieldLink M.2.1 i "java/lang/String" "coder" "B" ∈ M.2.2.2.1) (hdg : decode M.1 pc = .ok (.getfield i, 3)) (k : PW g l M d kc ks (pc + 3) lo (.int 0 :: st) h Q) : PW g l M d kc ks pc lo (.float (c4 a) :: st) h Q := by
  intro p e R s m args below meth c H locs cells slots ls C hr hl hR hS hz
  rw [List.map_cons, tv4 C.2.2.2.2.2.1 a]
  exact vk_getf C.1 C.2.1 (C.2.2.2.2.2.1.2.2.2.2.2.1.1 a.val a.isLt).2.1 hS C.2.2.2.1 (C.2.2.2.2.1 _ hlk) (fun _ h => h) hdg (k p e R s m args below meth c H locs cells slots ls C hr hl hR hS hz)
theorem pw_tlen {a : Fin 4} (hdg : decode M.1 pc = .ok (.arraylength, 1)) (k : PW g l M d kc ks (pc + 1) lo (.int (nI (tlen a)) :: st) h Q) : PW g l M d kc ks pc lo (.float (c8 a) :: st) h Q := by
  intro p e R s m args below meth c H locs cells slots ls C hr hl hR hS hz
  rw [List.map_cons, tv8 C.2.2.2.2.2.1 a]
  exact va_tlen C.1 C.2.1 (C.2.2.2.2.2.1.2.2.2.2.2.1.1 a.val a.isLt).2.2.2 hS rfl hdg (k p e R s m args below meth c H locs cells slots ls C hr hl hR hS hz)
theorem pw_tbald {a : Fin 4} {i : Int32} (hin : vp_in i (tlen a)) (hdg : decode M.1 pc = .ok (.baload, 1)) (k : PW g l M d kc ks (pc + 1) lo (.int (tch a i.toNatClampNeg) :: st) h Q) : PW g l M d kc ks pc lo (.int i :: .float (c8 a) :: st) h Q := by
  intro p e R s m args below meth c H locs cells slots ls C hr hl hR hS hz
  rw [List.map_cons, List.map_cons, tv8 C.2.2.2.2.2.1 a]
  exact va_tb C.1 C.2.1 (C.2.2.2.2.2.1.2.2.2.2.2.1.1 a.val a.isLt).2.2.2 hS hin rfl hdg (k p e R s m args below meth c H locs cells slots ls C hr hl hR hS hz)
theorem pw_i2c {x : Int32} (hdg : decode M.1 pc = .ok (.i2c, 1)) (k : PW g l M d kc ks (pc + 1) lo (.int (x.toUInt32 % 65536).toInt32 :: st) h Q) : PW g l M d kc ks pc lo (.int x :: st) h Q := fun p e R s m args below meth c H locs cells slots ls C hr hl hR hS hz => lv_i2c C.1 C.2.1 hdg rfl (k p e R s m args below meth c H locs cells slots ls C hr hl hR hS hz)
theorem pw_callVT {y : MethodName} {i n maxL d' kc' ks' kc2 ks2 : Nat} {a : Fin 4} {bytes : ByteArray} {ret : Option FieldType} {ws' ws'' : List Cond} {as rest st0 : List Value} {Q' : Option Value → Hp → Prop} (hM : PM g l d' kc' ks' y ws' (.float (c4 a) :: as) h Q') (hG : GoodIn M.2.2.2.1 (wsV M.2.1 i "java/lang/String" y ws')) (hw : ws' = Cond.code y bytes maxL ret :: ws'') (hd : y.cls = "java/lang/String" ∧ y.cls ≠ "java/lang/invoke/MethodHandle" ∧ y.cls ≠ "java/lang/invoke/VarHandle" ∧ (parseMethodDescriptor y.desc).map (fun d => d.parameters.length) = some n) (hn : as.length = n) (hdep : d' + 1 ≤ d ∧ maxL ≤ 21) (hcap : kc = kc' + kc2 ∧ ks = ks' + ks2) (hrest : (rest.map fun v => v.category).sum ≤ 8) (hdg : decode M.1 pc = .ok (.invokevirtual i, 3)) (hst : st0 = as.reverse ++ .float (c4 a) :: rest) (kk : ∀ r h', Q' r h' → PW g l M d kc2 ks2 (pc + 3) lo (r.toList ++ rest) h' Q) : PW g l M d kc ks pc lo st0 h Q := by
  subst hst
  intro p e R s m args below meth c H locs cells slots ls C9 hr hl hR hS hz
  have tq := tv4 C9.2.2.2.2.2.1 a
  refine pw_run (va_runV (C := "java/lang/String") (As := as.map (trV g)) (rest := rest.map (trV g)) (b := (g.2.2.2 a.val).getD 0) ⟨C9.1, C9.2.1, C9.2.2.1, C9.2.2.2.1, C9.2.2.2.2.1⟩ hM (cwV n C9.2.2.2.2.1 hG hw rfl rfl hd (room_ok hdep hr)) ⟨PcOf.blind, vk_recv (i := a.val) C9.2.2.2.2.2.1.2.2.2.2.2.1 a.isLt hS, fun U hU hW => ⟨by rw [List.map_cons, tq], by rw [hU]; exact hR, KX.moved hW (fun a h1 h2 => by rw [hU]; exact hS.2.1 a h1 h2) C9.2.2.2.2.2.1⟩⟩ rfl (by rw [List.length_map]; exact hn) hl.1 (by show List.map (trV g) _ = _; rw [List.map_append, List.map_reverse, List.map_cons, tq]) (by rw [sum_cat]; show 2 * 0 + _ ≤ 8; omega) hdg ⟨by omega, by omega⟩) hS fun r h' H1 locs1 hq hR1 hS1 => pw_back hcap C9 hr hl hR1 hS1 hz (kk r h' hq)
abbrev m_coder : MD := (cJ0_coder_7d493, RJ0, "coder", wsJ0_coder_7d493, 1, some .byte)
theorem t_coder {a : Fin 4} : PM g l 1 0 0 yJ0_coder_7d493 wsJ0_coder_7d493 [.float (c4 a)] h (fun r9 h9 => r9 = some (.int 0) ∧ h9 = h) := by
  refine pm_of (M := m_coder) (by decide) rfl rfl rfl (Nat.le_of_ble_eq_true rfl) (lo := [some (.float (c4 a))]) rfl ?_
  refine pw_gets (v := .int 1) (fun s hK => hK.2.2.2.2.2.2.1) (by decide +kernel) dJ0_coder_7d493_0 ?_
  refine pw_if_eq (tgt := 13) dJ0_coder_7d493_3 (by decide) (fun q => absurd q (by decide)) (fun _ => ?_)
  refine pw_t4_n dJ0_coder_7d493_6 rfl ?_
  refine pw_tcod (by decide +kernel) dJ0_coder_7d493_7 ?_
  refine pw_goto (tgt := 14) dJ0_coder_7d493_10 (by decide) ?_
  exact pw_iret rfl rfl dJ0_coder_7d493_14 ⟨rfl, rfl⟩
abbrev m_latin : MD := (cJ0_isLatin1_aae02, RJ0, "isLatin1", wsJ0_isLatin1_aae02, 1, some .boolean)
theorem t_latin {a : Fin 4} : PM g l 1 0 0 yJ0_isLatin1_aae02 wsJ0_isLatin1_aae02 [.float (c4 a)] h (fun r9 h9 => r9 = some (.int 1) ∧ h9 = h) := by
  refine pm_of (M := m_latin) (by decide) rfl rfl rfl (Nat.le_of_ble_eq_true rfl) (lo := [some (.float (c4 a))]) rfl ?_
  refine pw_gets (v := .int 1) (fun s hK => hK.2.2.2.2.2.2.1) (by decide +kernel) dJ0_isLatin1_aae02_0 ?_
  refine pw_if_eq (tgt := 17) dJ0_isLatin1_aae02_3 (by decide) (fun q => absurd q (by decide)) (fun _ => ?_)
  refine pw_t4_n dJ0_isLatin1_aae02_6 rfl ?_
  refine pw_tcod (by decide +kernel) dJ0_isLatin1_aae02_7 ?_
  refine pw_if_ne (tgt := 17) dJ0_isLatin1_aae02_10 (by decide) (fun q => absurd rfl q) (fun _ => ?_)
  refine pw_iconst (v := 1) dJ0_isLatin1_aae02_13 (by decide) ?_
  refine pw_goto (tgt := 18) dJ0_isLatin1_aae02_14 (by decide) ?_
  exact pw_iret rfl rfl dJ0_isLatin1_aae02_18 ⟨rfl, rfl⟩
abbrev m_chk3 : MD := (cJ3_checkIndex_8e157, RJ3, "checkIndex", wsJ3_checkIndex_8e157, 3, some .int)
theorem t_chk3 {i n : Int32} (h1 : ¬ i < 0) (h2 : i < n) : PM g l 1 0 0 yJ3_checkIndex_8e157 wsJ3_checkIndex_8e157 [.int i, .int n, .float 8] h (fun r9 h9 => r9 = some (.int i) ∧ h9 = h) := by
  refine pm_of (M := m_chk3) (by decide) rfl rfl rfl (Nat.le_of_ble_eq_true rfl) (lo := [some (.int i), some (.int n), some (.float 8)]) rfl ?_
  refine pw_iload_n dJ3_checkIndex_8e157_0 rfl ?_
  refine pw_if_lt (tgt := 9) dJ3_checkIndex_8e157_1 (by decide) (fun q => absurd q h1) (fun _ => ?_)
  refine pw_iload_n dJ3_checkIndex_8e157_4 rfl ?_
  refine pw_iload_n dJ3_checkIndex_8e157_5 rfl ?_
  refine pw_icmp_lt (tgt := 16) dJ3_checkIndex_8e157_6 (by decide) (fun _ => ?_) (fun q => absurd h2 q)
  refine pw_iload_n dJ3_checkIndex_8e157_16 rfl ?_
  exact pw_iret rfl rfl dJ3_checkIndex_8e157_17 ⟨rfl, rfl⟩
abbrev m_chk0 : MD := (cJ0_checkIndex_df160, RJ0, "checkIndex", wsJ0_checkIndex_df160, 2, none)
theorem hd9_chk3 : yJ3_checkIndex_8e157.cls ≠ "java/lang/invoke/MethodHandle" ∧ yJ3_checkIndex_8e157.cls ≠ "java/lang/invoke/VarHandle" ∧ (parseMethodDescriptor yJ3_checkIndex_8e157.desc).map (fun d => d.parameters.length) = some 3 := by decide +kernel
theorem t_chk0 {i n : Int32} (h1 : ¬ i < 0) (h2 : i < n) : PM g l 2 0 0 yJ0_checkIndex_df160 wsJ0_checkIndex_df160 [.int i, .int n] h (fun r9 h9 => r9 = none ∧ h9 = h) := by
  refine pm_of (M := m_chk0) (by decide) rfl rfl rfl (Nat.le_of_ble_eq_true rfl) (lo := [some (.int i), some (.int n)]) rfl ?_
  refine pw_iload_n dJ0_checkIndex_df160_0 rfl ?_
  refine pw_iload_n dJ0_checkIndex_df160_1 rfl ?_
  refine pw_gets (v := .float 8) (fun s hK => hK.2.2.2.2.2.2.2.1) (by decide +kernel) dJ0_checkIndex_df160_2 ?_
  refine pw_callS (kc2 := 0) (ks2 := 0) (as := [.int i, .int n, .float 8]) (rest := []) (t_chk3 h1 h2) gJ0_checkIndex_df160_J3_checkIndex_8e157 rfl hd9_chk3 rfl ⟨by decide, by decide⟩ ⟨rfl, rfl⟩ (Nat.le_of_ble_eq_true rfl) dJ0_checkIndex_df160_5 rfl (fun r' h' q => ?_)
  obtain ⟨rfl, rfl⟩ := q
  refine pw_pop (v := .int i) (st := []) dJ0_checkIndex_df160_8 rfl ?_
  exact pw_vret rfl dJ0_checkIndex_df160_9 ⟨rfl, rfl⟩
abbrev m_chr1 : MD := (cJ1_charAt_3b067, RJ1, "charAt", wsJ1_charAt_3b067, 2, some .char)
theorem hd9_chk0 : yJ0_checkIndex_df160.cls ≠ "java/lang/invoke/MethodHandle" ∧ yJ0_checkIndex_df160.cls ≠ "java/lang/invoke/VarHandle" ∧ (parseMethodDescriptor yJ0_checkIndex_df160.desc).map (fun d => d.parameters.length) = some 2 := by decide +kernel
theorem t_chr1 {a : Fin 4} {j : Nat} (hj : j < tlen a) : PM g l 3 0 0 yJ1_charAt_3b067 wsJ1_charAt_3b067 [.float (c8 a), .int (nI j)] h (fun r9 h9 => r9 = some (.int (tch a j)) ∧ h9 = h) := by
  have h5 := tlen_le a
  have hcl : (nI j).toNatClampNeg = j := nI_clamp (by omega)
  have hc := tch_c a ⟨j, by omega⟩
  refine pm_of (M := m_chr1) (by decide) rfl rfl rfl (Nat.le_of_ble_eq_true rfl) (lo := [some (.float (c8 a)), some (.int (nI j))]) rfl ?_
  refine pw_iload_n dJ1_charAt_3b067_0 rfl ?_
  refine pw_t8_n dJ1_charAt_3b067_1 rfl ?_
  refine pw_tlen dJ1_charAt_3b067_2 ?_
  refine pw_callS (kc2 := 0) (ks2 := 0) (as := [.int (nI j), .int (nI (tlen a))]) (rest := []) (t_chk0 (nI_pos (by omega)) (nI_lt hj (by omega))) gJ1_charAt_3b067_J0_checkIndex_df160 rfl hd9_chk0 rfl ⟨by decide, by decide⟩ ⟨rfl, rfl⟩ (Nat.le_of_ble_eq_true rfl) dJ1_charAt_3b067_3 rfl (fun r' h' q => ?_)
  obtain ⟨rfl, rfl⟩ := q
  refine pw_t8_n (st := []) dJ1_charAt_3b067_6 rfl ?_
  refine pw_iload_n dJ1_charAt_3b067_7 rfl ?_
  refine pw_tbald (vp_in_nI hj (by omega)) dJ1_charAt_3b067_8 ?_
  rw [hcl]
  refine pw_sipush (v := 255) dJ1_charAt_3b067_9 (by decide) ?_
  refine pw_iand dJ1_charAt_3b067_12 ?_
  refine pw_i2c dJ1_charAt_3b067_13 ?_
  rw [hc.1]
  exact pw_iret rfl hc.2 dJ1_charAt_3b067_14 ⟨rfl, rfl⟩
abbrev m_len : MD := (cJ0_length_8abf5, RJ0, "length", wsJ0_length_8abf5, 1, some .int)
theorem hd9_coder : yJ0_coder_7d493.cls = "java/lang/String" ∧ yJ0_coder_7d493.cls ≠ "java/lang/invoke/MethodHandle" ∧ yJ0_coder_7d493.cls ≠ "java/lang/invoke/VarHandle" ∧ (parseMethodDescriptor yJ0_coder_7d493.desc).map (fun d => d.parameters.length) = some 0 := by decide +kernel
theorem tlen_shr : ∀ a : Fin 4, nI (tlen a) >>> ((0 : Int32) &&& 31) = nI (tlen a) := by decide
def f_J0_length_8abf5 (_ : Hp) (a0 : Fin 4) : Option Int32 := some (nI (tlen a0))
theorem t_J0_length_8abf5 {a0 : Fin 4} {r : Int32} (hf : f_J0_length_8abf5 h a0 = some r) : PM g l 2 0 0 yJ0_length_8abf5 wsJ0_length_8abf5 [.float (c4 a0)] h (fun r9 h9 => r9 = some (.int r) ∧ h9 = h) := by
  refine pm_of (M := m_len) (by decide) rfl rfl rfl (Nat.le_of_ble_eq_true rfl) (lo := [some (.float (c4 a0))]) rfl ?_
  refine pw_t4_n dJ0_length_8abf5_0 rfl ?_
  refine pw_tval (by decide +kernel) dJ0_length_8abf5_1 ?_
  refine pw_tlen dJ0_length_8abf5_4 ?_
  refine pw_t4_n dJ0_length_8abf5_5 rfl ?_
  refine pw_callVT (kc2 := 0) (ks2 := 0) (as := []) (rest := [.int (nI (tlen a0))]) t_coder gJ0_length_8abf5_J0_coder_7d493 rfl hd9_coder rfl ⟨by decide, by decide⟩ ⟨rfl, rfl⟩ (Nat.le_of_ble_eq_true rfl) dJ0_length_8abf5_6 rfl (fun r' h' q => ?_)
  obtain ⟨rfl, rfl⟩ := q
  refine pw_ishr (x := nI (tlen a0)) (y := 0) (st := []) dJ0_length_8abf5_9 ?_
  rw [tlen_shr a0]
  exact pw_iret rfl rfl dJ0_length_8abf5_10 ⟨congrArg (fun z => some (Value.int z)) (Option.some.inj hf), rfl⟩
theorem hd9_J0_length_8abf5 : yJ0_length_8abf5.cls = "java/lang/String" ∧ yJ0_length_8abf5.cls ≠ "java/lang/invoke/MethodHandle" ∧ yJ0_length_8abf5.cls ≠ "java/lang/invoke/VarHandle" ∧ (parseMethodDescriptor yJ0_length_8abf5.desc).map (fun d => d.parameters.length) = some 0 := by decide +kernel
abbrev m_chr : MD := (cJ0_charAt_5068e, RJ0, "charAt", wsJ0_charAt_5068e, 2, some .char)
theorem hd9_latin : yJ0_isLatin1_aae02.cls = "java/lang/String" ∧ yJ0_isLatin1_aae02.cls ≠ "java/lang/invoke/MethodHandle" ∧ yJ0_isLatin1_aae02.cls ≠ "java/lang/invoke/VarHandle" ∧ (parseMethodDescriptor yJ0_isLatin1_aae02.desc).map (fun d => d.parameters.length) = some 0 := by decide +kernel
theorem hd9_chr1 : yJ1_charAt_3b067.cls ≠ "java/lang/invoke/MethodHandle" ∧ yJ1_charAt_3b067.cls ≠ "java/lang/invoke/VarHandle" ∧ (parseMethodDescriptor yJ1_charAt_3b067.desc).map (fun d => d.parameters.length) = some 2 := by decide +kernel
def f_J0_charAt_5068e (_ : Hp) (a0 : Fin 4) (a1 : Int32) : Option Int32 := if a1 < 0 ∨ tlen a0 ≤ a1.toNatClampNeg then none else some (tch a0 a1.toNatClampNeg)
theorem t_J0_charAt_5068e {a0 : Fin 4} {a1 r : Int32} (hf : f_J0_charAt_5068e h a0 a1 = some r) : PM g l 4 0 0 yJ0_charAt_5068e wsJ0_charAt_5068e [.float (c4 a0), .int a1] h (fun r9 h9 => r9 = some (.int r) ∧ h9 = h) := by
  unfold f_J0_charAt_5068e at hf
  by_cases hq : a1 < 0 ∨ tlen a0 ≤ a1.toNatClampNeg
  · rw [if_pos hq] at hf; cases hf
  · rw [if_neg hq] at hf
    have h5 := tlen_le a0
    obtain ⟨j, hj, rfl⟩ := vp_in_of (x := a1) (n := tlen a0) hq (by omega)
    have hcl : (nI j).toNatClampNeg = j := nI_clamp (by omega)
    rw [hcl] at hf
    have hc := tch_c a0 ⟨j, by omega⟩
    refine pm_of (M := m_chr) (by decide) rfl rfl rfl (Nat.le_of_ble_eq_true rfl) (lo := [some (.float (c4 a0)), some (.int (nI j))]) rfl ?_
    refine pw_t4_n dJ0_charAt_5068e_0 rfl ?_
    refine pw_callVT (kc2 := 0) (ks2 := 0) (as := []) (rest := []) t_latin gJ0_charAt_5068e_J0_isLatin1_aae02 rfl hd9_latin rfl ⟨by decide, by decide⟩ ⟨rfl, rfl⟩ (Nat.le_of_ble_eq_true rfl) dJ0_charAt_5068e_1 rfl (fun r' h' q => ?_)
    obtain ⟨rfl, rfl⟩ := q
    refine pw_if_eq (x := 1) (st := []) (tgt := 16) dJ0_charAt_5068e_4 (by decide) (fun q => absurd q (by decide)) (fun _ => ?_)
    refine pw_t4_n dJ0_charAt_5068e_7 rfl ?_
    refine pw_tval (by decide +kernel) dJ0_charAt_5068e_8 ?_
    refine pw_iload_n dJ0_charAt_5068e_11 rfl ?_
    refine pw_callS (kc2 := 0) (ks2 := 0) (as := [.float (c8 a0), .int (nI j)]) (rest := []) (t_chr1 hj) gJ0_charAt_5068e_J1_charAt_3b067 rfl hd9_chr1 rfl ⟨by decide, by decide⟩ ⟨rfl, rfl⟩ (Nat.le_of_ble_eq_true rfl) dJ0_charAt_5068e_12 rfl (fun r' h' q => ?_)
    obtain ⟨rfl, rfl⟩ := q
    exact pw_iret (x := tch a0 j) rfl hc.2 dJ0_charAt_5068e_15 ⟨congrArg (fun z => some (Value.int z)) (Option.some.inj hf), rfl⟩
theorem hd9_J0_charAt_5068e : yJ0_charAt_5068e.cls = "java/lang/String" ∧ yJ0_charAt_5068e.cls ≠ "java/lang/invoke/MethodHandle" ∧ yJ0_charAt_5068e.cls ≠ "java/lang/invoke/VarHandle" ∧ (parseMethodDescriptor yJ0_charAt_5068e.desc).map (fun d => d.parameters.length) = some 1 := by decide +kernel
/-- a call on a text -/
theorem q_callVT_i {y : MethodName} {i n maxL d' kc' ks' kc2 ks2 : Nat} {a : Fin 4} {bytes : ByteArray} {ret : Option FieldType} {ws' ws'' : List Cond} {as rest st0 : List Value} {α : Type} {r : α} {o : Option Int32} {F : Int32 → Option α} (hf : o.bind F = some r) (hM : ∀ x, o = some x → PM g l d' kc' ks' y ws' (.float (c4 a) :: as) h (fun r' h' => r' = some (.int x) ∧ h' = h)) (hG : GoodIn M.2.2.2.1 (wsV M.2.1 i "java/lang/String" y ws')) (hw : ws' = Cond.code y bytes maxL ret :: ws'') (hd : y.cls = "java/lang/String" ∧ y.cls ≠ "java/lang/invoke/MethodHandle" ∧ y.cls ≠ "java/lang/invoke/VarHandle" ∧ (parseMethodDescriptor y.desc).map (fun d => d.parameters.length) = some n) (hn : as.length = n) (hdep : d' + 1 ≤ d ∧ maxL ≤ 21) (hcap : kc = kc' + kc2 ∧ ks = ks' + ks2) (hrest : (rest.map fun v => v.category).sum ≤ 8) (hdg : decode M.1 pc = .ok (.invokevirtual i, 3)) (hst : st0 = as.reverse ++ .float (c4 a) :: rest) (kk : ∀ x, F x = some r → PW g l M d kc2 ks2 (pc + 3) lo (.int x :: rest) h Q) : PW g l M d kc ks pc lo st0 h Q := by
  obtain ⟨x, e, hf⟩ := Option.bind_eq_some_iff.mp hf
  refine pw_callVT (hM x e) hG hw hd hn hdep hcap hrest hdg hst (fun r' h' q => ?_)
  obtain ⟨rfl, rfl⟩ := q
  exact kk x hf
end PWT
