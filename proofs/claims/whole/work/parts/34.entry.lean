/-! the law's entry: the two objects and the row of one long are made -/
abbrev fsX6 : List Value := [.null, .int 0, .null, .int 0, .null, .null, .null, .null, .null, .null, .null, .null, .null, .null]
abbrev fsX7 : List Value := [.int 0, .null, .int 0, .int 0, .int 0, .int 0, .int 0, .int 0, .int 0, .int 0, .long 0, .null, .null, .null, .null, .null, .null, .null, .null, .int 0, .null, .null, .null, .null, .int 0, .int 0, .int 0, .null, .int 0, .null, .int 0]
def h_0 : Hp := (0, fun _ => none)
def f_L_start : Option (Nat × Nat × Nat × Hp) := (nO h_0 6 fsX6).bind fun x1 => (f_X6_init x1.2 x1.1).bind fun h2 => (nO h2 7 fsX7).bind fun x3 => (f_X7_init x3.2 x3.1).bind fun h4 => (nA h4 2 1 (1 : Int32)).bind fun x5 => some (x1.1, x3.1, x5.1, x5.2)
set_option maxRecDepth 20000 in
theorem w9_L_law_X6 : ∀ w ∈ u_ws RX6 TX6 14, w ∈ wsL_law := by decide +kernel
set_option maxRecDepth 20000 in
theorem w9_L_law_X7 : ∀ w ∈ u_ws RX7 TX7 31, w ∈ wsL_law := by decide +kernel
set_option maxHeartbeats 4000000 in
set_option maxRecDepth 100000 in
theorem law_entry {g : GT} {l : Launch} {I : Hp → Prop} (hfl : l.stackTraces = false) (hI : LawS I) (hL : scL g ≤ 3072) {h9 : Hp} (hf : f_L_start = some (0, 64, 80, h9)) (hIh : I h9) : PW g l m_L_law 46 1105 18575 0 [some (.float 9), none, none, none, none, none, none] [] h_0 (fun r9 _ => r9 = some (.int 1)) := by
  rw [f_L_start] at hf
  refine q_new (kc2 := 1104) (ks2 := 18561) hf tyX6 tyX6_ok rfl w9_L_law_X6 (by decide +kernel) (by decide +kernel) (by decide +kernel) (fun j hj => by rcases (show j = 0 ∨ j = 1 ∨ j = 2 ∨ j = 3 ∨ j = 4 ∨ j = 5 ∨ j = 6 ∨ j = 7 ∨ j = 8 ∨ j = 9 ∨ j = 10 ∨ j = 11 ∨ j = 12 ∨ j = 13 by omega) with rfl | rfl | rfl | rfl | rfl | rfl | rfl | rfl | rfl | rfl | rfl | rfl | rfl | rfl <;> rfl) ⟨rfl, rfl⟩ dL_law_0 (fun x1 hf => ?_)
  refine pw_dup dL_law_3 rfl ?_
  refine q_callI_v (kc2 := 1041) (ks2 := 11515) (as := []) (rest := [.ref x1.1]) hf (fun x9 e9 => t_X6_init e9) gL_law_X6_init (by decide +kernel) (by decide +kernel) (by decide +kernel) rfl rfl hd8_X6_init rfl ⟨by decide, by decide⟩ ⟨rfl, rfl⟩ (Nat.le_of_ble_eq_true rfl) dL_law_4 rfl (fun h2 hf => ?_)
  refine pw_astore_n (x := x1.1) dL_law_7 (by decide) rfl ?_
  dsimp only [lset, lset2, clr]
  refine q_new (kc2 := 1040) (ks2 := 11484) hf tyX7 tyX7_ok rfl w9_L_law_X7 (by decide +kernel) (by decide +kernel) (by decide +kernel) (fun j hj => by rcases (show j = 0 ∨ j = 1 ∨ j = 2 ∨ j = 3 ∨ j = 4 ∨ j = 5 ∨ j = 6 ∨ j = 7 ∨ j = 8 ∨ j = 9 ∨ j = 10 ∨ j = 11 ∨ j = 12 ∨ j = 13 ∨ j = 14 ∨ j = 15 ∨ j = 16 ∨ j = 17 ∨ j = 18 ∨ j = 19 ∨ j = 20 ∨ j = 21 ∨ j = 22 ∨ j = 23 ∨ j = 24 ∨ j = 25 ∨ j = 26 ∨ j = 27 ∨ j = 28 ∨ j = 29 ∨ j = 30 by omega) with rfl | rfl | rfl | rfl | rfl | rfl | rfl | rfl | rfl | rfl | rfl | rfl | rfl | rfl | rfl | rfl | rfl | rfl | rfl | rfl | rfl | rfl | rfl | rfl | rfl | rfl | rfl | rfl | rfl | rfl | rfl <;> rfl) ⟨rfl, rfl⟩ dL_law_8 (fun x3 hf => ?_)
  refine pw_dup dL_law_11 rfl ?_
  refine q_callI_v (kc2 := 1025) (ks2 := 10241) (as := []) (rest := [.ref x3.1]) hf (fun x9 e9 => t_X7_init e9) gL_law_X7_init (by decide +kernel) (by decide +kernel) (by decide +kernel) rfl rfl hd8_X7_init rfl ⟨by decide, by decide⟩ ⟨rfl, rfl⟩ (Nat.le_of_ble_eq_true rfl) dL_law_12 rfl (fun h4 hf => ?_)
  refine pw_astore_n (x := x3.1) dL_law_15 (by decide) rfl ?_
  dsimp only [lset, lset2, clr]
  refine pw_iconst (v := 1) dL_law_16 (by decide) ?_
  refine q_newa (kc2 := 1024) (ks2 := 10240) hf (by decide) rfl (by decide +kernel) (by decide) ⟨rfl, rfl⟩ dL_law_17 (fun x5 hf => ?_)
  refine pw_astore_n (x := x5.1) dL_law_19 (by decide) rfl ?_
  dsimp only [lset, lset2, clr]
  refine pw_iconst (v := 0) dL_law_20 (by decide) ?_
  refine pw_istore (x := 0) dL_law_21 (by decide) rfl ?_
  dsimp only [lset, lset2, clr]
  obtain ⟨e1, e3, e5, e6⟩ : x1.1 = 0 ∧ x3.1 = 64 ∧ x5.1 = 80 ∧ x5.2 = h9 := by
    have hf := Option.some.inj hf
    exact ⟨congrArg Prod.fst hf, congrArg (fun q => q.2.1) hf, congrArg (fun q => q.2.2.1) hf, congrArg (fun q => q.2.2.2) hf⟩
  rw [e1, e3, e5, e6]
  exact law_loop hfl hI hL 512 0 h9 hIh (by omega) (by decide)
