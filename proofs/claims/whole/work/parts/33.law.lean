/-! THE LAW'S LOOP, out of an invariant of the small heap: the class at 0, the reference at 64, the law's own row of one long at 80 -/
section LAW
variable {g : GT} {l : Launch} {M : MD} {d kc ks pc : Nat} {lo : List (Option Value)} {st : List Value} {h : Hp} {Q : Option Value → Hp → Prop}
theorem sv {U : State} (hK : KX g U) : ∃ b, trV g (.float 9) = .ref b ∧ b < g.1 ∧ va_X b (scL g) (scX g) U U.heap := by
  obtain ⟨b, e1, e2, e3⟩ := hK.2.2.2.2.2.2.2.2.2.2
  refine ⟨b, ?_, e2, e3⟩
  show va_rf (g.2.2.2 9) = _
  rw [e1]
  rfl
theorem pw_s_n (hdg : decode M.1 pc = .ok (.aload_n 0, 1)) (hx : lo[0]? = some (some (.float 9))) (k : PW g l M d kc ks (pc + 1) lo (.float 9 :: st) h Q) : PW g l M d kc ks pc lo st h Q := by
  intro p e R s m args below meth c H locs cells slots ls C hr hl hR hS hz
  obtain ⟨b, e1, -, -⟩ := sv C.2.2.2.2.2.1
  have e2 := k p e R s m args below meth c H locs cells slots ls C hr hl hR hS hz
  have e3 := hl.2.2 _ _ hx
  rw [e1] at e3
  rw [List.map_cons, e1] at e2
  exact lv_aload_n C.1 C.2.1 hdg rfl e3 e2
theorem pw_sld {i : Int32} (hin : vp_in i (scL g)) (hdg : decode M.1 pc = .ok (.iaload, 1)) (k : PW g l M d kc ks (pc + 1) lo (.int (scX g i.toNatClampNeg) :: st) h Q) : PW g l M d kc ks pc lo (.int i :: .float 9 :: st) h Q := by
  intro p e R s m args below meth c H locs cells slots ls C hr hl hR hS hz
  obtain ⟨b, e1, e2, e3⟩ := sv C.2.2.2.2.2.1
  rw [List.map_cons, List.map_cons, e1]
  exact va_sld C.1 C.2.1 e3 (Nat.lt_of_lt_of_le e2 hz) (Nat.not_le.mpr e2) hS hin hdg (k p e R s m args below meth c H locs cells slots ls C hr hl hR hS hz)
theorem pw_slen (hdg : decode M.1 pc = .ok (.arraylength, 1)) (k : PW g l M d kc ks (pc + 1) lo (.int (nI (scL g)) :: st) h Q) : PW g l M d kc ks pc lo (.float 9 :: st) h Q := by
  intro p e R s m args below meth c H locs cells slots ls C hr hl hR hS hz
  obtain ⟨b, e1, e2, e3⟩ := sv C.2.2.2.2.2.1
  rw [List.map_cons, e1]
  exact va_slen C.1 C.2.1 e3 (Nat.lt_of_lt_of_le e2 hz) (Nat.not_le.mpr e2) hS hdg (k p e R s m args below meth c H locs cells slots ls C hr hl hR hS hz)
end LAW
abbrev m_L_law : MD := (cL_law, RL, "law", wsL_law, 7, some .boolean)
/-- feed: class and reference answer alike -/
def S_feed (I : Hp → Prop) : Prop := ∀ h, I h → ∀ a1 a2 a3 a4 a5 : Int32, ∃ r h1 h2, (oK h 0 6 = true ∧ f_X6_feed h 0 a1 a2 a3 a4 a5 = some (r, h1)) ∧ (oK h1 64 7 = true ∧ f_X7_feed h1 64 a1 a2 a3 a4 a5 = some (r, h2)) ∧ I h2
/-- end: class and reference answer alike -/
def S_end (I : Hp → Prop) : Prop := ∀ h, I h → ∀ a1 : Int32, ∃ r h1 h2, (oK h 0 6 = true ∧ f_X6_end h 0 a1 = some (r, h1)) ∧ (oK h1 64 7 = true ∧ f_X7_end h1 64 a1 = some (r, h2)) ∧ I h2
/-- frame: class and reference answer alike -/
def S_frame (I : Hp → Prop) : Prop := ∀ h, I h → ∃ r h1 h2, (oK h 0 6 = true ∧ f_X6_frame h 0 = some (r, h1)) ∧ (oK h1 64 7 = true ∧ f_X7_frame h1 64 = some (r, h2)) ∧ I h2
/-- fault: class and reference answer alike -/
def S_fault (I : Hp → Prop) : Prop := ∀ h, I h → ∃ r h2, (oK h 0 6 = true ∧ f_X6_fault h 0 = some r) ∧ (oK h 64 7 = true ∧ f_X7_fault h 64 = some (r, h2)) ∧ I h2
/-- kind: class and reference answer alike -/
def S_kind (I : Hp → Prop) : Prop := ∀ h, I h → ∀ a1 a2 : Int32, ∃ r h1 h2, (oK h 0 6 = true ∧ f_X6_kind h 0 a1 a2 = some (r, h1)) ∧ (oK h1 64 7 = true ∧ f_X7_kind h1 64 a1 a2 = some (r, h2)) ∧ I h2
/-- now: class and reference answer alike -/
def S_now (I : Hp → Prop) : Prop := ∀ h, I h → ∀ a1 : Int32, ∃ r h2, (oK h 0 6 = true ∧ f_X6_now h 0 a1 = some r) ∧ (oK h 64 7 = true ∧ f_X7_now h 64 a1 = some (r, h2)) ∧ I h2
/-- pinned: class and reference answer alike -/
def S_pinned (I : Hp → Prop) : Prop := ∀ h, I h → ∀ a1 : Int32, ∃ r h2, (oK h 0 6 = true ∧ f_X6_pinned h 0 a1 = some r) ∧ (oK h 64 7 = true ∧ f_X7_pinned h 64 a1 = some (r, h2)) ∧ I h2
/-- ways: class and reference answer alike -/
def S_ways (I : Hp → Prop) : Prop := ∀ h, I h → ∃ r h1 h2, (oK h 0 6 = true ∧ f_X6_ways h 0 = some (r, h1)) ∧ (oK h1 64 7 = true ∧ f_X7_ways h1 64 = some (r, h2)) ∧ I h2
/-- at: class and reference answer alike -/
def S_at (I : Hp → Prop) : Prop := ∀ h, I h → ∀ a1 : Int32, ∃ r h2, (oK h 0 6 = true ∧ f_X6_at h 0 a1 = some r) ∧ (oK h 64 7 = true ∧ f_X7_at h 64 a1 = some (r, h2)) ∧ I h2
/-- first: class and reference answer alike -/
def S_first (I : Hp → Prop) : Prop := ∀ h, I h → ∀ a1 : Int32, ∃ r h2, (oK h 0 6 = true ∧ f_X6_first h 0 a1 = some r) ∧ (oK h 64 7 = true ∧ f_X7_first h 64 a1 = some (r, h2)) ∧ I h2
/-- rank: class and reference answer alike -/
def S_rank (I : Hp → Prop) : Prop := ∀ h, I h → ∃ r h1 h2, (oK h 0 6 = true ∧ f_X6_rank h 0 = some (r, h1)) ∧ (oK h1 64 7 = true ∧ f_X7_rank h1 64 = some (r, h2)) ∧ I h2
/-- behind: class and reference answer alike -/
def S_behind (I : Hp → Prop) : Prop := ∀ h, I h → ∃ r h1 h2, (oK h 0 6 = true ∧ f_X6_behind h 0 = some (r, h1)) ∧ (oK h1 64 7 = true ∧ f_X7_behind h1 64 = some (r, h2)) ∧ I h2
/-- standing: class and reference answer alike -/
def S_standing (I : Hp → Prop) : Prop := ∀ h, I h → ∀ a1 a2 : Int32, ∃ r h1 h2, (oK h 0 6 = true ∧ f_X6_standing h 0 a1 a2 = some (r, h1)) ∧ (oK h1 64 7 = true ∧ f_X7_standing h1 64 a1 a2 = some (r, h2)) ∧ I h2
/-- may: class and reference answer alike -/
def S_may (I : Hp → Prop) : Prop := ∀ h, I h → ∀ a1 : Int32, ∃ r h1 h2, (oK h 0 6 = true ∧ f_X6_may h 0 a1 = some (r, h1)) ∧ (oK h1 64 7 = true ∧ f_X7_may h1 64 a1 = some (r, h2)) ∧ I h2
/-- sure: class and reference answer alike -/
def S_sure (I : Hp → Prop) : Prop := ∀ h, I h → ∃ r h1 h2, (oK h 0 6 = true ∧ f_X6_sure h 0 = some (r, h1)) ∧ (oK h1 64 7 = true ∧ f_X7_sure h1 64 = some (r, h2)) ∧ I h2
/-- extended: class and reference answer alike -/
def S_extended (I : Hp → Prop) : Prop := ∀ h, I h → ∀ a1 a2 : Int32, ∃ r h1 h2, (oK h 0 6 = true ∧ f_X6_extended h 0 a1 a2 = some (r, h1)) ∧ (oK h1 64 7 = true ∧ f_X7_extended h1 64 a1 a2 = some (r, h2)) ∧ I h2
/-- made: class and reference answer alike -/
def S_made (I : Hp → Prop) : Prop := ∀ h, I h → ∀ a1 : Int32, ∃ r h1 h2, (oK h 0 6 = true ∧ f_X6_made h 0 a1 = some (r, h1)) ∧ (oK h1 64 7 = true ∧ f_X7_made h1 64 a1 = some (r, h2)) ∧ I h2
/-- third: class and reference answer alike -/
def S_third (I : Hp → Prop) : Prop := ∀ h, I h → ∀ a1 a2 : Int32, ∃ r h2, (oK h 0 6 = true ∧ f_X6_third h 0 a1 a2 = some r) ∧ (oK h 64 7 = true ∧ f_X7_third h 64 a1 a2 = some (r, h2)) ∧ I h2
/-- hole: class and reference answer alike -/
def S_hole (I : Hp → Prop) : Prop := ∀ h, I h → ∀ a1 a2 : Int32, (a2 = 0 ∨ a2 = 1) → ∃ r h1 h2, (oK h 0 6 = true ∧ f_X6_hole h 0 a1 a2 = some (r, h1)) ∧ (oK h1 64 7 = true ∧ f_X7_hole h1 64 a1 a2 = some (r, h2)) ∧ I h2
/-- pair: class and reference answer alike -/
def S_pair (I : Hp → Prop) : Prop := ∀ h, I h → ∀ a1 a2 : Int32, (a2 = 0 ∨ a2 = 1) → ∃ r h1 h2, (oK h 0 6 = true ∧ f_X6_pair h 0 a1 a2 = some (r, h1)) ∧ (oK h1 64 7 = true ∧ f_X7_pair h1 64 a1 a2 = some (r, h2)) ∧ I h2
/-- pin: class and reference answer alike -/
def S_pin (I : Hp → Prop) : Prop := ∀ h, I h → ∀ a1 a2 : Int32, ∃ r h1 h2, (oK h 0 6 = true ∧ f_X6_pin h 0 a1 a2 = some (r, h1)) ∧ (oK h1 64 7 = true ∧ f_X7_pin h1 64 a1 a2 = some (r, h2)) ∧ I h2
/-- drawn: class and reference answer alike -/
def S_drawn (I : Hp → Prop) : Prop := ∀ h, I h → ∀ a1 a2 : Int32, ∃ r h1 h2, (oK h 0 6 = true ∧ f_X6_drawn h 0 a1 a2 = some (r, h1)) ∧ (oK h1 64 7 = true ∧ f_X7_drawn h1 64 a1 a2 = some (r, h2)) ∧ I h2
/-- undo: class and reference answer alike -/
def S_undo (I : Hp → Prop) : Prop := ∀ h, I h → ∃ r h1 h2, (oK h 0 6 = true ∧ f_X6_undo h 0 = some (r, h1)) ∧ (oK h1 64 7 = true ∧ f_X7_undo h1 64 = some (r, h2)) ∧ I h2
/-- image: class and reference answer alike -/
def S_image (I : Hp → Prop) : Prop := ∀ h, I h → ∀ a1 : Int32, ∃ r h1 h2, (oK h 0 6 = true ∧ f_X6_image h 0 a1 = some (r, h1)) ∧ (oK h1 64 7 = true ∧ f_X7_image h1 64 a1 = some (r, h2)) ∧ I h2
/-- restore: class and reference answer alike -/
def S_restore (I : Hp → Prop) : Prop := ∀ h, I h → ∀ a1 : Int32, ∃ r h1 h2, (oK h 0 6 = true ∧ f_X6_restore h 0 a1 = some (r, h1)) ∧ (oK h1 64 7 = true ∧ f_X7_restore h1 64 a1 = some (r, h2)) ∧ I h2
/-- row: it throws where the reference refuses, and answers alike elsewhere -/
def S_row (I : Hp → Prop) : Prop := ∀ h, I h → ∀ a : Int32, ∃ x1 b, oK h 0 6 = true ∧ f_X6_counted h 0 = some x1 ∧ oK x1.2 x1.1 1 = true ∧ f_X1_hasRank x1.2 x1.1 a = some b ∧
  (¬ b = 0 → ∃ r h2 h3, f_X6_row_21 0 a x1.1 x1.2 = some r ∧ sL r.2 80 0 r.1.toInt64 = some h2 ∧ (oK h2 64 7 = true ∧ f_X7_row h2 64 a = some (r.1, h3)) ∧ (oK h3 64 7 = true ∧ f_X7_thrown h3 64 = some 0) ∧ aL h3 80 0 = some r.1.toInt64 ∧ I h3) ∧
  (b = 0 → ∀ n, x1.2.1 ≤ n → ∃ q h3, (oK (n, x1.2.2) 64 7 = true ∧ f_X7_row (n, x1.2.2) 64 a = some (q, h3)) ∧ (oK h3 64 7 = true ∧ f_X7_thrown h3 64 = some 1) ∧ I h3)
def LawS (I : Hp → Prop) : Prop := S_feed I ∧ S_end I ∧ S_frame I ∧ S_fault I ∧ S_kind I ∧ S_now I ∧ S_pinned I ∧ S_ways I ∧ S_row I ∧ S_at I ∧ S_first I ∧ S_rank I ∧ S_behind I ∧ S_standing I ∧ S_may I ∧ S_sure I ∧ S_extended I ∧ S_made I ∧ S_third I ∧ S_hole I ∧ S_pair I ∧ S_pin I ∧ S_drawn I ∧ S_undo I ∧ S_image I ∧ S_restore I
theorem add6 (j k : Nat) (c : Int32) (hc : c = nI k) : nI (6 * j) + c = nI (6 * j + k) := by rw [hc]; exact nI_add _ _
set_option maxHeartbeats 4000000 in
set_option maxRecDepth 100000 in
theorem law_feed {g : GT} {l : Launch} {I : Hp → Prop} {N j : Nat} {h : Hp} (hj : 6 * j + 6 ≤ scL g) (hL : scL g ≤ 3072) (hIh : I h) (tail : ∀ h, I h → PW g l m_L_law 46 (2 * N) (20 * N) 933 [some (.float 9), some (.ref 0), some (.ref 64), some (.ref 80), some (.int (nI (6 * j))), none, none] [] h (fun r9 _ => r9 = some (.int 1))) (hI : S_feed I) : PW g l m_L_law 46 (2 + 2 * N) (20 + 20 * N) 160 [some (.float 9), some (.ref 0), some (.ref 64), some (.ref 80), some (.int (nI (6 * j))), none, none] [] h (fun r9 _ => r9 = some (.int 1)) := by
  have e1 : (nI (6 * j + 1)).toNatClampNeg = 6 * j + 1 := nI_clamp (by omega)
  have e2 : (nI (6 * j + 2)).toNatClampNeg = 6 * j + 2 := nI_clamp (by omega)
  have e3 : (nI (6 * j + 3)).toNatClampNeg = 6 * j + 3 := nI_clamp (by omega)
  have e4 : (nI (6 * j + 4)).toNatClampNeg = 6 * j + 4 := nI_clamp (by omega)
  have e5 : (nI (6 * j + 5)).toNatClampNeg = 6 * j + 5 := nI_clamp (by omega)
  obtain ⟨r, h1, h2, ⟨o1, m1⟩, ⟨o2, m2⟩, m3⟩ := hI h hIh (scX g (6 * j + 1)) (scX g (6 * j + 2)) (scX g (6 * j + 3)) (scX g (6 * j + 4)) (scX g (6 * j + 5))
  obtain ⟨fs1, g1⟩ := oK_spec o1
  obtain ⟨fs2, g2⟩ := oK_spec o2
  refine pw_aload_n dL_law_160 rfl ?_
  refine pw_s_n dL_law_161 rfl ?_
  refine pw_iload dL_law_162 rfl ?_
  refine pw_iconst (v := 1) dL_law_164 (by decide) ?_
  refine pw_iadd dL_law_165 ?_
  rw [add6 j 1 1 rfl]
  refine pw_sld (vp_in_nI (by omega) (by omega)) dL_law_166 ?_
  rw [e1]
  refine pw_s_n dL_law_167 rfl ?_
  refine pw_iload dL_law_168 rfl ?_
  refine pw_iconst (v := 2) dL_law_170 (by decide) ?_
  refine pw_iadd dL_law_171 ?_
  rw [add6 j 2 2 rfl]
  refine pw_sld (vp_in_nI (by omega) (by omega)) dL_law_172 ?_
  rw [e2]
  refine pw_s_n dL_law_173 rfl ?_
  refine pw_iload dL_law_174 rfl ?_
  refine pw_iconst (v := 3) dL_law_176 (by decide) ?_
  refine pw_iadd dL_law_177 ?_
  rw [add6 j 3 3 rfl]
  refine pw_sld (vp_in_nI (by omega) (by omega)) dL_law_178 ?_
  rw [e3]
  refine pw_s_n dL_law_179 rfl ?_
  refine pw_iload dL_law_180 rfl ?_
  refine pw_iconst (v := 4) dL_law_182 (by decide) ?_
  refine pw_iadd dL_law_183 ?_
  rw [add6 j 4 4 rfl]
  refine pw_sld (vp_in_nI (by omega) (by omega)) dL_law_184 ?_
  rw [e4]
  refine pw_s_n dL_law_185 rfl ?_
  refine pw_iload dL_law_186 rfl ?_
  refine pw_iconst (v := 5) dL_law_188 (by decide) ?_
  refine pw_iadd dL_law_189 ?_
  rw [add6 j 5 5 rfl]
  refine pw_sld (vp_in_nI (by omega) (by omega)) dL_law_190 ?_
  rw [e5]
  refine pw_callV (kc2 := 2 + 2 * N) (ks2 := 20 + 20 * N) (as := [.int (scX g (6 * j + 1)), .int (scX g (6 * j + 2)), .int (scX g (6 * j + 3)), .int (scX g (6 * j + 4)), .int (scX g (6 * j + 5))]) (rest := []) (t_X6_feed m1) gL_law_X6_feed rfl hd9_X6_feed rfl g1 rfl ⟨by decide, by decide⟩ ⟨(Nat.zero_add _).symm, (Nat.zero_add _).symm⟩ (Nat.le_of_ble_eq_true rfl) dL_law_191 rfl (fun r9 h9 hq => ?_)
  obtain ⟨rfl, rfl⟩ := hq
  refine pw_aload_n (st := [.int r]) dL_law_194 rfl ?_
  refine pw_s_n dL_law_195 rfl ?_
  refine pw_iload dL_law_196 rfl ?_
  refine pw_iconst (v := 1) dL_law_198 (by decide) ?_
  refine pw_iadd dL_law_199 ?_
  rw [add6 j 1 1 rfl]
  refine pw_sld (vp_in_nI (by omega) (by omega)) dL_law_200 ?_
  rw [e1]
  refine pw_s_n dL_law_201 rfl ?_
  refine pw_iload dL_law_202 rfl ?_
  refine pw_iconst (v := 2) dL_law_204 (by decide) ?_
  refine pw_iadd dL_law_205 ?_
  rw [add6 j 2 2 rfl]
  refine pw_sld (vp_in_nI (by omega) (by omega)) dL_law_206 ?_
  rw [e2]
  refine pw_s_n dL_law_207 rfl ?_
  refine pw_iload dL_law_208 rfl ?_
  refine pw_iconst (v := 3) dL_law_210 (by decide) ?_
  refine pw_iadd dL_law_211 ?_
  rw [add6 j 3 3 rfl]
  refine pw_sld (vp_in_nI (by omega) (by omega)) dL_law_212 ?_
  rw [e3]
  refine pw_s_n dL_law_213 rfl ?_
  refine pw_iload dL_law_214 rfl ?_
  refine pw_iconst (v := 4) dL_law_216 (by decide) ?_
  refine pw_iadd dL_law_217 ?_
  rw [add6 j 4 4 rfl]
  refine pw_sld (vp_in_nI (by omega) (by omega)) dL_law_218 ?_
  rw [e4]
  refine pw_s_n dL_law_219 rfl ?_
  refine pw_iload dL_law_220 rfl ?_
  refine pw_iconst (v := 5) dL_law_222 (by decide) ?_
  refine pw_iadd dL_law_223 ?_
  rw [add6 j 5 5 rfl]
  refine pw_sld (vp_in_nI (by omega) (by omega)) dL_law_224 ?_
  rw [e5]
  refine pw_callV (kc2 := 2 + 2 * N) (ks2 := 20 + 20 * N) (as := [.int (scX g (6 * j + 1)), .int (scX g (6 * j + 2)), .int (scX g (6 * j + 3)), .int (scX g (6 * j + 4)), .int (scX g (6 * j + 5))]) (rest := [.int r]) (t_X7_feed m2) gL_law_X7_feed rfl hd9_X7_feed rfl g2 rfl ⟨by decide, by decide⟩ ⟨(Nat.zero_add _).symm, (Nat.zero_add _).symm⟩ (Nat.le_of_ble_eq_true rfl) dL_law_225 rfl (fun r9 h9 hq => ?_)
  obtain ⟨rfl, rfl⟩ := hq
  refine pw_icmp_eq (x := r) (y := r) (st := []) (tgt := 933) dL_law_228 (by decide) (fun _ => ?_) (fun q => absurd rfl q)
  refine pw_more (x := 2) (y := 20) ?_
  exact tail _ m3
set_option maxHeartbeats 4000000 in
set_option maxRecDepth 100000 in
theorem law_end {g : GT} {l : Launch} {I : Hp → Prop} {N j : Nat} {h : Hp} (hj : 6 * j + 6 ≤ scL g) (hL : scL g ≤ 3072) (hIh : I h) (tail : ∀ h, I h → PW g l m_L_law 46 (2 * N) (20 * N) 933 [some (.float 9), some (.ref 0), some (.ref 64), some (.ref 80), some (.int (nI (6 * j))), none, none] [] h (fun r9 _ => r9 = some (.int 1))) (hI : S_end I) : PW g l m_L_law 46 (2 + 2 * N) (20 + 20 * N) 233 [some (.float 9), some (.ref 0), some (.ref 64), some (.ref 80), some (.int (nI (6 * j))), none, none] [] h (fun r9 _ => r9 = some (.int 1)) := by
  have e1 : (nI (6 * j + 1)).toNatClampNeg = 6 * j + 1 := nI_clamp (by omega)
  obtain ⟨r, h1, h2, ⟨o1, m1⟩, ⟨o2, m2⟩, m3⟩ := hI h hIh (scX g (6 * j + 1))
  obtain ⟨fs1, g1⟩ := oK_spec o1
  obtain ⟨fs2, g2⟩ := oK_spec o2
  refine pw_aload_n dL_law_233 rfl ?_
  refine pw_s_n dL_law_234 rfl ?_
  refine pw_iload dL_law_235 rfl ?_
  refine pw_iconst (v := 1) dL_law_237 (by decide) ?_
  refine pw_iadd dL_law_238 ?_
  rw [add6 j 1 1 rfl]
  refine pw_sld (vp_in_nI (by omega) (by omega)) dL_law_239 ?_
  rw [e1]
  refine pw_callV (kc2 := 2 + 2 * N) (ks2 := 20 + 20 * N) (as := [.int (scX g (6 * j + 1))]) (rest := []) (t_X6_end m1) gL_law_X6_end rfl hd9_X6_end rfl g1 rfl ⟨by decide, by decide⟩ ⟨(Nat.zero_add _).symm, (Nat.zero_add _).symm⟩ (Nat.le_of_ble_eq_true rfl) dL_law_240 rfl (fun r9 h9 hq => ?_)
  obtain ⟨rfl, rfl⟩ := hq
  refine pw_aload_n (st := [.int r]) dL_law_243 rfl ?_
  refine pw_s_n dL_law_244 rfl ?_
  refine pw_iload dL_law_245 rfl ?_
  refine pw_iconst (v := 1) dL_law_247 (by decide) ?_
  refine pw_iadd dL_law_248 ?_
  rw [add6 j 1 1 rfl]
  refine pw_sld (vp_in_nI (by omega) (by omega)) dL_law_249 ?_
  rw [e1]
  refine pw_callV (kc2 := 2 + 2 * N) (ks2 := 20 + 20 * N) (as := [.int (scX g (6 * j + 1))]) (rest := [.int r]) (t_X7_end m2) gL_law_X7_end rfl hd9_X7_end rfl g2 rfl ⟨by decide, by decide⟩ ⟨(Nat.zero_add _).symm, (Nat.zero_add _).symm⟩ (Nat.le_of_ble_eq_true rfl) dL_law_250 rfl (fun r9 h9 hq => ?_)
  obtain ⟨rfl, rfl⟩ := hq
  refine pw_icmp_eq (x := r) (y := r) (st := []) (tgt := 933) dL_law_253 (by decide) (fun _ => ?_) (fun q => absurd rfl q)
  refine pw_more (x := 2) (y := 20) ?_
  exact tail _ m3
set_option maxHeartbeats 4000000 in
set_option maxRecDepth 100000 in
theorem law_frame {g : GT} {l : Launch} {I : Hp → Prop} {N j : Nat} {h : Hp} (hj : 6 * j + 6 ≤ scL g) (hL : scL g ≤ 3072) (hIh : I h) (tail : ∀ h, I h → PW g l m_L_law 46 (2 * N) (20 * N) 933 [some (.float 9), some (.ref 0), some (.ref 64), some (.ref 80), some (.int (nI (6 * j))), none, none] [] h (fun r9 _ => r9 = some (.int 1))) (hI : S_frame I) : PW g l m_L_law 46 (2 + 2 * N) (20 + 20 * N) 258 [some (.float 9), some (.ref 0), some (.ref 64), some (.ref 80), some (.int (nI (6 * j))), none, none] [] h (fun r9 _ => r9 = some (.int 1)) := by
  obtain ⟨r, h1, h2, ⟨o1, m1⟩, ⟨o2, m2⟩, m3⟩ := hI h hIh
  obtain ⟨fs1, g1⟩ := oK_spec o1
  obtain ⟨fs2, g2⟩ := oK_spec o2
  refine pw_aload_n dL_law_258 rfl ?_
  refine pw_callV (kc2 := 2 + 2 * N) (ks2 := 20 + 20 * N) (as := []) (rest := []) (t_X6_frame m1) gL_law_X6_frame rfl hd9_X6_frame rfl g1 rfl ⟨by decide, by decide⟩ ⟨(Nat.zero_add _).symm, (Nat.zero_add _).symm⟩ (Nat.le_of_ble_eq_true rfl) dL_law_259 rfl (fun r9 h9 hq => ?_)
  obtain ⟨rfl, rfl⟩ := hq
  refine pw_aload_n (st := [.int r]) dL_law_262 rfl ?_
  refine pw_callV (kc2 := 2 + 2 * N) (ks2 := 20 + 20 * N) (as := []) (rest := [.int r]) (t_X7_frame m2) gL_law_X7_frame rfl hd9_X7_frame rfl g2 rfl ⟨by decide, by decide⟩ ⟨(Nat.zero_add _).symm, (Nat.zero_add _).symm⟩ (Nat.le_of_ble_eq_true rfl) dL_law_263 rfl (fun r9 h9 hq => ?_)
  obtain ⟨rfl, rfl⟩ := hq
  refine pw_icmp_eq (x := r) (y := r) (st := []) (tgt := 933) dL_law_266 (by decide) (fun _ => ?_) (fun q => absurd rfl q)
  refine pw_more (x := 2) (y := 20) ?_
  exact tail _ m3
set_option maxHeartbeats 4000000 in
set_option maxRecDepth 100000 in
theorem law_fault {g : GT} {l : Launch} {I : Hp → Prop} {N j : Nat} {h : Hp} (hj : 6 * j + 6 ≤ scL g) (hL : scL g ≤ 3072) (hIh : I h) (tail : ∀ h, I h → PW g l m_L_law 46 (2 * N) (20 * N) 933 [some (.float 9), some (.ref 0), some (.ref 64), some (.ref 80), some (.int (nI (6 * j))), none, none] [] h (fun r9 _ => r9 = some (.int 1))) (hI : S_fault I) : PW g l m_L_law 46 (2 + 2 * N) (20 + 20 * N) 271 [some (.float 9), some (.ref 0), some (.ref 64), some (.ref 80), some (.int (nI (6 * j))), none, none] [] h (fun r9 _ => r9 = some (.int 1)) := by
  obtain ⟨r, h2, ⟨o1, m1⟩, ⟨o2, m2⟩, m3⟩ := hI h hIh
  obtain ⟨fs1, g1⟩ := oK_spec o1
  obtain ⟨fs2, g2⟩ := oK_spec o2
  refine pw_aload_n dL_law_271 rfl ?_
  refine pw_callV (kc2 := 2 + 2 * N) (ks2 := 20 + 20 * N) (as := []) (rest := []) (t_X6_fault m1) gL_law_X6_fault rfl hd9_X6_fault rfl g1 rfl ⟨by decide, by decide⟩ ⟨(Nat.zero_add _).symm, (Nat.zero_add _).symm⟩ (Nat.le_of_ble_eq_true rfl) dL_law_272 rfl (fun r9 h9 hq => ?_)
  obtain ⟨rfl, rfl⟩ := hq
  refine pw_aload_n (st := [.int r]) dL_law_275 rfl ?_
  refine pw_callV (kc2 := 2 + 2 * N) (ks2 := 20 + 20 * N) (as := []) (rest := [.int r]) (t_X7_fault m2) gL_law_X7_fault rfl hd9_X7_fault rfl g2 rfl ⟨by decide, by decide⟩ ⟨(Nat.zero_add _).symm, (Nat.zero_add _).symm⟩ (Nat.le_of_ble_eq_true rfl) dL_law_276 rfl (fun r9 h9 hq => ?_)
  obtain ⟨rfl, rfl⟩ := hq
  refine pw_icmp_eq (x := r) (y := r) (st := []) (tgt := 933) dL_law_279 (by decide) (fun _ => ?_) (fun q => absurd rfl q)
  refine pw_more (x := 2) (y := 20) ?_
  exact tail _ m3
set_option maxHeartbeats 4000000 in
set_option maxRecDepth 100000 in
theorem law_kind {g : GT} {l : Launch} {I : Hp → Prop} {N j : Nat} {h : Hp} (hj : 6 * j + 6 ≤ scL g) (hL : scL g ≤ 3072) (hIh : I h) (tail : ∀ h, I h → PW g l m_L_law 46 (2 * N) (20 * N) 933 [some (.float 9), some (.ref 0), some (.ref 64), some (.ref 80), some (.int (nI (6 * j))), none, none] [] h (fun r9 _ => r9 = some (.int 1))) (hI : S_kind I) : PW g l m_L_law 46 (2 + 2 * N) (20 + 20 * N) 284 [some (.float 9), some (.ref 0), some (.ref 64), some (.ref 80), some (.int (nI (6 * j))), none, none] [] h (fun r9 _ => r9 = some (.int 1)) := by
  have e1 : (nI (6 * j + 1)).toNatClampNeg = 6 * j + 1 := nI_clamp (by omega)
  have e2 : (nI (6 * j + 2)).toNatClampNeg = 6 * j + 2 := nI_clamp (by omega)
  obtain ⟨r, h1, h2, ⟨o1, m1⟩, ⟨o2, m2⟩, m3⟩ := hI h hIh (scX g (6 * j + 1)) (scX g (6 * j + 2))
  obtain ⟨fs1, g1⟩ := oK_spec o1
  obtain ⟨fs2, g2⟩ := oK_spec o2
  refine pw_aload_n dL_law_284 rfl ?_
  refine pw_s_n dL_law_285 rfl ?_
  refine pw_iload dL_law_286 rfl ?_
  refine pw_iconst (v := 1) dL_law_288 (by decide) ?_
  refine pw_iadd dL_law_289 ?_
  rw [add6 j 1 1 rfl]
  refine pw_sld (vp_in_nI (by omega) (by omega)) dL_law_290 ?_
  rw [e1]
  refine pw_s_n dL_law_291 rfl ?_
  refine pw_iload dL_law_292 rfl ?_
  refine pw_iconst (v := 2) dL_law_294 (by decide) ?_
  refine pw_iadd dL_law_295 ?_
  rw [add6 j 2 2 rfl]
  refine pw_sld (vp_in_nI (by omega) (by omega)) dL_law_296 ?_
  rw [e2]
  refine pw_callV (kc2 := 2 * N) (ks2 := 20 * N) (as := [.int (scX g (6 * j + 1)), .int (scX g (6 * j + 2))]) (rest := []) (t_X6_kind m1) gL_law_X6_kind rfl hd9_X6_kind rfl g1 rfl ⟨by decide, by decide⟩ ⟨rfl, rfl⟩ (Nat.le_of_ble_eq_true rfl) dL_law_297 rfl (fun r9 h9 hq => ?_)
  obtain ⟨rfl, rfl⟩ := hq
  refine pw_aload_n (st := [.int r]) dL_law_300 rfl ?_
  refine pw_s_n dL_law_301 rfl ?_
  refine pw_iload dL_law_302 rfl ?_
  refine pw_iconst (v := 1) dL_law_304 (by decide) ?_
  refine pw_iadd dL_law_305 ?_
  rw [add6 j 1 1 rfl]
  refine pw_sld (vp_in_nI (by omega) (by omega)) dL_law_306 ?_
  rw [e1]
  refine pw_s_n dL_law_307 rfl ?_
  refine pw_iload dL_law_308 rfl ?_
  refine pw_iconst (v := 2) dL_law_310 (by decide) ?_
  refine pw_iadd dL_law_311 ?_
  rw [add6 j 2 2 rfl]
  refine pw_sld (vp_in_nI (by omega) (by omega)) dL_law_312 ?_
  rw [e2]
  refine pw_callV (kc2 := 2 * N) (ks2 := 20 * N) (as := [.int (scX g (6 * j + 1)), .int (scX g (6 * j + 2))]) (rest := [.int r]) (t_X7_kind m2) gL_law_X7_kind rfl hd9_X7_kind rfl g2 rfl ⟨by decide, by decide⟩ ⟨(Nat.zero_add _).symm, (Nat.zero_add _).symm⟩ (Nat.le_of_ble_eq_true rfl) dL_law_313 rfl (fun r9 h9 hq => ?_)
  obtain ⟨rfl, rfl⟩ := hq
  refine pw_icmp_eq (x := r) (y := r) (st := []) (tgt := 933) dL_law_316 (by decide) (fun _ => ?_) (fun q => absurd rfl q)
  exact tail _ m3
set_option maxHeartbeats 4000000 in
set_option maxRecDepth 100000 in
theorem law_now {g : GT} {l : Launch} {I : Hp → Prop} {N j : Nat} {h : Hp} (hj : 6 * j + 6 ≤ scL g) (hL : scL g ≤ 3072) (hIh : I h) (tail : ∀ h, I h → PW g l m_L_law 46 (2 * N) (20 * N) 933 [some (.float 9), some (.ref 0), some (.ref 64), some (.ref 80), some (.int (nI (6 * j))), none, none] [] h (fun r9 _ => r9 = some (.int 1))) (hI : S_now I) : PW g l m_L_law 46 (2 + 2 * N) (20 + 20 * N) 321 [some (.float 9), some (.ref 0), some (.ref 64), some (.ref 80), some (.int (nI (6 * j))), none, none] [] h (fun r9 _ => r9 = some (.int 1)) := by
  have e1 : (nI (6 * j + 1)).toNatClampNeg = 6 * j + 1 := nI_clamp (by omega)
  obtain ⟨r, h2, ⟨o1, m1⟩, ⟨o2, m2⟩, m3⟩ := hI h hIh (scX g (6 * j + 1))
  obtain ⟨fs1, g1⟩ := oK_spec o1
  obtain ⟨fs2, g2⟩ := oK_spec o2
  refine pw_aload_n dL_law_321 rfl ?_
  refine pw_s_n dL_law_322 rfl ?_
  refine pw_iload dL_law_323 rfl ?_
  refine pw_iconst (v := 1) dL_law_325 (by decide) ?_
  refine pw_iadd dL_law_326 ?_
  rw [add6 j 1 1 rfl]
  refine pw_sld (vp_in_nI (by omega) (by omega)) dL_law_327 ?_
  rw [e1]
  refine pw_callV (kc2 := 2 + 2 * N) (ks2 := 20 + 20 * N) (as := [.int (scX g (6 * j + 1))]) (rest := []) (t_X6_now m1) gL_law_X6_now rfl hd9_X6_now rfl g1 rfl ⟨by decide, by decide⟩ ⟨(Nat.zero_add _).symm, (Nat.zero_add _).symm⟩ (Nat.le_of_ble_eq_true rfl) dL_law_328 rfl (fun r9 h9 hq => ?_)
  obtain ⟨rfl, rfl⟩ := hq
  refine pw_aload_n (st := [.int r]) dL_law_331 rfl ?_
  refine pw_s_n dL_law_332 rfl ?_
  refine pw_iload dL_law_333 rfl ?_
  refine pw_iconst (v := 1) dL_law_335 (by decide) ?_
  refine pw_iadd dL_law_336 ?_
  rw [add6 j 1 1 rfl]
  refine pw_sld (vp_in_nI (by omega) (by omega)) dL_law_337 ?_
  rw [e1]
  refine pw_callV (kc2 := 2 + 2 * N) (ks2 := 20 + 20 * N) (as := [.int (scX g (6 * j + 1))]) (rest := [.int r]) (t_X7_now m2) gL_law_X7_now rfl hd9_X7_now rfl g2 rfl ⟨by decide, by decide⟩ ⟨(Nat.zero_add _).symm, (Nat.zero_add _).symm⟩ (Nat.le_of_ble_eq_true rfl) dL_law_338 rfl (fun r9 h9 hq => ?_)
  obtain ⟨rfl, rfl⟩ := hq
  refine pw_icmp_eq (x := r) (y := r) (st := []) (tgt := 933) dL_law_341 (by decide) (fun _ => ?_) (fun q => absurd rfl q)
  refine pw_more (x := 2) (y := 20) ?_
  exact tail _ m3
set_option maxHeartbeats 4000000 in
set_option maxRecDepth 100000 in
theorem law_pinned {g : GT} {l : Launch} {I : Hp → Prop} {N j : Nat} {h : Hp} (hj : 6 * j + 6 ≤ scL g) (hL : scL g ≤ 3072) (hIh : I h) (tail : ∀ h, I h → PW g l m_L_law 46 (2 * N) (20 * N) 933 [some (.float 9), some (.ref 0), some (.ref 64), some (.ref 80), some (.int (nI (6 * j))), none, none] [] h (fun r9 _ => r9 = some (.int 1))) (hI : S_pinned I) : PW g l m_L_law 46 (2 + 2 * N) (20 + 20 * N) 346 [some (.float 9), some (.ref 0), some (.ref 64), some (.ref 80), some (.int (nI (6 * j))), none, none] [] h (fun r9 _ => r9 = some (.int 1)) := by
  have e1 : (nI (6 * j + 1)).toNatClampNeg = 6 * j + 1 := nI_clamp (by omega)
  obtain ⟨r, h2, ⟨o1, m1⟩, ⟨o2, m2⟩, m3⟩ := hI h hIh (scX g (6 * j + 1))
  obtain ⟨fs1, g1⟩ := oK_spec o1
  obtain ⟨fs2, g2⟩ := oK_spec o2
  refine pw_aload_n dL_law_346 rfl ?_
  refine pw_s_n dL_law_347 rfl ?_
  refine pw_iload dL_law_348 rfl ?_
  refine pw_iconst (v := 1) dL_law_350 (by decide) ?_
  refine pw_iadd dL_law_351 ?_
  rw [add6 j 1 1 rfl]
  refine pw_sld (vp_in_nI (by omega) (by omega)) dL_law_352 ?_
  rw [e1]
  refine pw_callV (kc2 := 2 + 2 * N) (ks2 := 20 + 20 * N) (as := [.int (scX g (6 * j + 1))]) (rest := []) (t_X6_pinned m1) gL_law_X6_pinned rfl hd9_X6_pinned rfl g1 rfl ⟨by decide, by decide⟩ ⟨(Nat.zero_add _).symm, (Nat.zero_add _).symm⟩ (Nat.le_of_ble_eq_true rfl) dL_law_353 rfl (fun r9 h9 hq => ?_)
  obtain ⟨rfl, rfl⟩ := hq
  refine pw_aload_n (st := [.int r]) dL_law_356 rfl ?_
  refine pw_s_n dL_law_357 rfl ?_
  refine pw_iload dL_law_358 rfl ?_
  refine pw_iconst (v := 1) dL_law_360 (by decide) ?_
  refine pw_iadd dL_law_361 ?_
  rw [add6 j 1 1 rfl]
  refine pw_sld (vp_in_nI (by omega) (by omega)) dL_law_362 ?_
  rw [e1]
  refine pw_callV (kc2 := 2 + 2 * N) (ks2 := 20 + 20 * N) (as := [.int (scX g (6 * j + 1))]) (rest := [.int r]) (t_X7_pinned m2) gL_law_X7_pinned rfl hd9_X7_pinned rfl g2 rfl ⟨by decide, by decide⟩ ⟨(Nat.zero_add _).symm, (Nat.zero_add _).symm⟩ (Nat.le_of_ble_eq_true rfl) dL_law_363 rfl (fun r9 h9 hq => ?_)
  obtain ⟨rfl, rfl⟩ := hq
  refine pw_icmp_eq (x := r) (y := r) (st := []) (tgt := 933) dL_law_366 (by decide) (fun _ => ?_) (fun q => absurd rfl q)
  refine pw_more (x := 2) (y := 20) ?_
  exact tail _ m3
set_option maxHeartbeats 4000000 in
set_option maxRecDepth 100000 in
theorem law_ways {g : GT} {l : Launch} {I : Hp → Prop} {N j : Nat} {h : Hp} (hj : 6 * j + 6 ≤ scL g) (hL : scL g ≤ 3072) (hIh : I h) (tail : ∀ h, I h → PW g l m_L_law 46 (2 * N) (20 * N) 933 [some (.float 9), some (.ref 0), some (.ref 64), some (.ref 80), some (.int (nI (6 * j))), none, none] [] h (fun r9 _ => r9 = some (.int 1))) (hI : S_ways I) : PW g l m_L_law 46 (2 + 2 * N) (20 + 20 * N) 371 [some (.float 9), some (.ref 0), some (.ref 64), some (.ref 80), some (.int (nI (6 * j))), none, none] [] h (fun r9 _ => r9 = some (.int 1)) := by
  obtain ⟨r, h1, h2, ⟨o1, m1⟩, ⟨o2, m2⟩, m3⟩ := hI h hIh
  obtain ⟨fs1, g1⟩ := oK_spec o1
  obtain ⟨fs2, g2⟩ := oK_spec o2
  refine pw_aload_n dL_law_371 rfl ?_
  refine pw_callV (kc2 := 2 + 2 * N) (ks2 := 20 + 20 * N) (as := []) (rest := []) (t_X6_ways m1) gL_law_X6_ways rfl hd9_X6_ways rfl g1 rfl ⟨by decide, by decide⟩ ⟨(Nat.zero_add _).symm, (Nat.zero_add _).symm⟩ (Nat.le_of_ble_eq_true rfl) dL_law_372 rfl (fun r9 h9 hq => ?_)
  obtain ⟨rfl, rfl⟩ := hq
  refine pw_aload_n (st := [.int r]) dL_law_375 rfl ?_
  refine pw_callV (kc2 := 2 + 2 * N) (ks2 := 20 + 20 * N) (as := []) (rest := [.int r]) (t_X7_ways m2) gL_law_X7_ways rfl hd9_X7_ways rfl g2 rfl ⟨by decide, by decide⟩ ⟨(Nat.zero_add _).symm, (Nat.zero_add _).symm⟩ (Nat.le_of_ble_eq_true rfl) dL_law_376 rfl (fun r9 h9 hq => ?_)
  obtain ⟨rfl, rfl⟩ := hq
  refine pw_icmp_eq (x := r) (y := r) (st := []) (tgt := 933) dL_law_379 (by decide) (fun _ => ?_) (fun q => absurd rfl q)
  refine pw_more (x := 2) (y := 20) ?_
  exact tail _ m3
set_option maxHeartbeats 4000000 in
set_option maxRecDepth 100000 in
theorem law_row {g : GT} {l : Launch} {I : Hp → Prop} {N j : Nat} {h : Hp} (hj : 6 * j + 6 ≤ scL g) (hL : scL g ≤ 3072) (hIh : I h) (tail : ∀ h, I h → PW g l m_L_law 46 (2 * N) (20 * N) 933 [some (.float 9), some (.ref 0), some (.ref 64), some (.ref 80), some (.int (nI (6 * j))), none, none] [] h (fun r9 _ => r9 = some (.int 1))) (hfl : l.stackTraces = false) (hI : S_row I) : PW g l m_L_law 46 (2 + 2 * N) (20 + 20 * N) 384 [some (.float 9), some (.ref 0), some (.ref 64), some (.ref 80), some (.int (nI (6 * j))), none, none] [] h (fun r9 _ => r9 = some (.int 1)) := by
  have e1 : (nI (6 * j + 1)).toNatClampNeg = 6 * j + 1 := nI_clamp (by omega)
  obtain ⟨x1, b, h0, hc, h1, hb, hT, hF⟩ := hI h hIh (scX g (6 * j + 1))
  have key : ∃ (r : Int32 × Hp) (h2 : Hp), (¬ b = 0 → f_X6_row_21 0 (scX g (6 * j + 1)) x1.1 x1.2 = some r) ∧ (¬ b = 0 → sL r.2 80 0 r.1.toInt64 = some h2) ∧ (¬ b = 0 → ∃ h3, (oK h2 64 7 = true ∧ f_X7_row h2 64 (scX g (6 * j + 1)) = some (r.1, h3)) ∧ (oK h3 64 7 = true ∧ f_X7_thrown h3 64 = some 0) ∧ aL h3 80 0 = some r.1.toInt64 ∧ I h3) := by
    by_cases hb0 : b = 0
    · exact ⟨(0, h), h, fun q => absurd hb0 q, fun q => absurd hb0 q, fun q => absurd hb0 q⟩
    · obtain ⟨r, h2, h3, k1, k2, k3⟩ := hT hb0
      exact ⟨r, h2, fun _ => k1, fun _ => k2, fun _ => ⟨h3, k3⟩⟩
  obtain ⟨r, h2, k1, k2, k3⟩ := key
  refine pw_aload_n dL_law_384 rfl ?_
  refine pw_s_n dL_law_385 rfl ?_
  refine pw_iload dL_law_386 rfl ?_
  refine pw_iconst (v := 1) dL_law_388 (by decide) ?_
  refine pw_iadd dL_law_389 ?_
  rw [add6 j 1 1 rfl]
  refine pw_sld (vp_in_nI (by omega) (by omega)) dL_law_390 ?_
  rw [e1]
  refine pw_aload_n dL_law_391 rfl ?_
  refine pw_callSW (kc2 := 1 + 2 * N) (ks2 := 14 + 20 * N) (hh := [(0, 9, 12, 13)]) (as := [.ref 0, .int (scX g (6 * j + 1)), .ref 80]) (rest := []) (t_L_row hfl h0 hc h1 hb k1 k2) gL_law_L_row rfl hd9_L_row rfl ⟨by decide, by decide⟩ ⟨by omega, by omega⟩ (Nat.le_of_ble_eq_true rfl) dL_law_392 rfl (fun r9 h9 hq => ?_)
  rcases hq with ⟨hb0, rfl, rfl⟩ | ⟨hb0, rfl, n, hn, rfl⟩
  · obtain ⟨h3, ⟨o1, m1⟩, ⟨o2, m2⟩, m3, m4⟩ := k3 hb0
    obtain ⟨fs1, g1⟩ := oK_spec o1
    obtain ⟨fs2, g2⟩ := oK_spec o2
    refine pw_istore (x := 0) (st := []) dL_law_395 (by decide) rfl ?_
    dsimp only [lset, lset2, clr]
    refine pw_aload_n dL_law_397 rfl ?_
    refine pw_s_n dL_law_398 rfl ?_
    refine pw_iload dL_law_399 rfl ?_
    refine pw_iconst (v := 1) dL_law_401 (by decide) ?_
    refine pw_iadd dL_law_402 ?_
    rw [add6 j 1 1 rfl]
    refine pw_sld (vp_in_nI (by omega) (by omega)) dL_law_403 ?_
    rw [e1]
    refine pw_callV (kc2 := 1 + 2 * N) (ks2 := 14 + 20 * N) (as := [.int (scX g (6 * j + 1))]) (rest := []) (t_X7_row m1) gL_law_X7_row rfl hd9_X7_row rfl g1 rfl ⟨by decide, by decide⟩ ⟨(Nat.zero_add _).symm, (Nat.zero_add _).symm⟩ (Nat.le_of_ble_eq_true rfl) dL_law_404 rfl (fun r9 h9 hq => ?_)
    obtain ⟨rfl, rfl⟩ := hq
    refine pw_istore (x := r.1) (st := []) dL_law_407 (by decide) rfl ?_
    dsimp only [lset, lset2, clr]
    refine pw_aload_n dL_law_409 rfl ?_
    refine pw_callV (kc2 := 1 + 2 * N) (ks2 := 14 + 20 * N) (as := []) (rest := []) (t_X7_thrown m2) gL_law_X7_thrown rfl hd9_X7_thrown rfl g2 rfl ⟨by decide, by decide⟩ ⟨(Nat.zero_add _).symm, (Nat.zero_add _).symm⟩ (Nat.le_of_ble_eq_true rfl) dL_law_410 rfl (fun r9 h9 hq => ?_)
    obtain ⟨rfl, rfl⟩ := hq
    refine pw_iload (st := [.int 0]) dL_law_413 rfl ?_
    refine pw_icmp_eq (x := 0) (y := 0) (st := []) (tgt := 420) dL_law_415 (by decide) (fun _ => ?_) (fun q => absurd rfl q)
    refine pw_iload dL_law_420 rfl ?_
    refine pw_if_ne (x := 0) (tgt := 437) dL_law_422 (by decide) (fun q => absurd rfl q) (fun _ => ?_)
    refine pw_aload_n dL_law_425 rfl ?_
    refine pw_iconst (v := 0) dL_law_426 (by decide) ?_
    refine pw_lald m3 dL_law_427 ?_
    refine pw_iload dL_law_428 rfl ?_
    refine pw_i2l dL_law_430 ?_
    refine pw_lcmp dL_law_431 ?_
    refine pw_if_eq (tgt := 437) dL_law_432 (by decide) (fun _ => ?_) (fun q => absurd (lcmp_self _) q)
    refine pw_goto (tgt := 933) dL_law_437 (by decide) ?_
    refine pw_more (x := 1) (y := 14) ?_
    exact pw_lo (lle_s rfl (lle_s rfl (lle_s rfl (lle_s rfl (lle_s rfl (lle_n (lle_n lle_0))))))) (tail _ m4)
  · obtain ⟨q9, h3, ⟨o1, m1⟩, ⟨o2, m2⟩, m4⟩ := hF hb0 n hn
    obtain ⟨fs1, g1⟩ := oK_spec o1
    obtain ⟨fs2, g2⟩ := oK_spec o2
    refine pw_istore (x := 1) (st := []) dL_law_395 (by decide) rfl ?_
    dsimp only [lset, lset2, clr]
    refine pw_aload_n dL_law_397 rfl ?_
    refine pw_s_n dL_law_398 rfl ?_
    refine pw_iload dL_law_399 rfl ?_
    refine pw_iconst (v := 1) dL_law_401 (by decide) ?_
    refine pw_iadd dL_law_402 ?_
    rw [add6 j 1 1 rfl]
    refine pw_sld (vp_in_nI (by omega) (by omega)) dL_law_403 ?_
    rw [e1]
    refine pw_callV (kc2 := 1 + 2 * N) (ks2 := 14 + 20 * N) (as := [.int (scX g (6 * j + 1))]) (rest := []) (t_X7_row m1) gL_law_X7_row rfl hd9_X7_row rfl g1 rfl ⟨by decide, by decide⟩ ⟨(Nat.zero_add _).symm, (Nat.zero_add _).symm⟩ (Nat.le_of_ble_eq_true rfl) dL_law_404 rfl (fun r9 h9 hq => ?_)
    obtain ⟨rfl, rfl⟩ := hq
    refine pw_istore (x := q9) (st := []) dL_law_407 (by decide) rfl ?_
    dsimp only [lset, lset2, clr]
    refine pw_aload_n dL_law_409 rfl ?_
    refine pw_callV (kc2 := 1 + 2 * N) (ks2 := 14 + 20 * N) (as := []) (rest := []) (t_X7_thrown m2) gL_law_X7_thrown rfl hd9_X7_thrown rfl g2 rfl ⟨by decide, by decide⟩ ⟨(Nat.zero_add _).symm, (Nat.zero_add _).symm⟩ (Nat.le_of_ble_eq_true rfl) dL_law_410 rfl (fun r9 h9 hq => ?_)
    obtain ⟨rfl, rfl⟩ := hq
    refine pw_iload (st := [.int 1]) dL_law_413 rfl ?_
    refine pw_icmp_eq (x := 1) (y := 1) (st := []) (tgt := 420) dL_law_415 (by decide) (fun _ => ?_) (fun q => absurd rfl q)
    refine pw_iload dL_law_420 rfl ?_
    refine pw_if_ne (x := 1) (tgt := 437) dL_law_422 (by decide) (fun _ => ?_) (fun q => absurd q (by decide))
    refine pw_goto (tgt := 933) dL_law_437 (by decide) ?_
    refine pw_more (x := 1) (y := 14) ?_
    exact pw_lo (lle_s rfl (lle_s rfl (lle_s rfl (lle_s rfl (lle_s rfl (lle_n (lle_n lle_0))))))) (tail _ m4)
set_option maxHeartbeats 4000000 in
set_option maxRecDepth 100000 in
theorem law_at {g : GT} {l : Launch} {I : Hp → Prop} {N j : Nat} {h : Hp} (hj : 6 * j + 6 ≤ scL g) (hL : scL g ≤ 3072) (hIh : I h) (tail : ∀ h, I h → PW g l m_L_law 46 (2 * N) (20 * N) 933 [some (.float 9), some (.ref 0), some (.ref 64), some (.ref 80), some (.int (nI (6 * j))), none, none] [] h (fun r9 _ => r9 = some (.int 1))) (hI : S_at I) : PW g l m_L_law 46 (2 + 2 * N) (20 + 20 * N) 440 [some (.float 9), some (.ref 0), some (.ref 64), some (.ref 80), some (.int (nI (6 * j))), none, none] [] h (fun r9 _ => r9 = some (.int 1)) := by
  have e1 : (nI (6 * j + 1)).toNatClampNeg = 6 * j + 1 := nI_clamp (by omega)
  obtain ⟨r, h2, ⟨o1, m1⟩, ⟨o2, m2⟩, m3⟩ := hI h hIh (scX g (6 * j + 1))
  obtain ⟨fs1, g1⟩ := oK_spec o1
  obtain ⟨fs2, g2⟩ := oK_spec o2
  refine pw_aload_n dL_law_440 rfl ?_
  refine pw_s_n dL_law_441 rfl ?_
  refine pw_iload dL_law_442 rfl ?_
  refine pw_iconst (v := 1) dL_law_444 (by decide) ?_
  refine pw_iadd dL_law_445 ?_
  rw [add6 j 1 1 rfl]
  refine pw_sld (vp_in_nI (by omega) (by omega)) dL_law_446 ?_
  rw [e1]
  refine pw_callV (kc2 := 2 + 2 * N) (ks2 := 20 + 20 * N) (as := [.int (scX g (6 * j + 1))]) (rest := []) (t_X6_at m1) gL_law_X6_at rfl hd9_X6_at rfl g1 rfl ⟨by decide, by decide⟩ ⟨(Nat.zero_add _).symm, (Nat.zero_add _).symm⟩ (Nat.le_of_ble_eq_true rfl) dL_law_447 rfl (fun r9 h9 hq => ?_)
  obtain ⟨rfl, rfl⟩ := hq
  refine pw_aload_n (st := [.int r]) dL_law_450 rfl ?_
  refine pw_s_n dL_law_451 rfl ?_
  refine pw_iload dL_law_452 rfl ?_
  refine pw_iconst (v := 1) dL_law_454 (by decide) ?_
  refine pw_iadd dL_law_455 ?_
  rw [add6 j 1 1 rfl]
  refine pw_sld (vp_in_nI (by omega) (by omega)) dL_law_456 ?_
  rw [e1]
  refine pw_callV (kc2 := 2 + 2 * N) (ks2 := 20 + 20 * N) (as := [.int (scX g (6 * j + 1))]) (rest := [.int r]) (t_X7_at m2) gL_law_X7_at rfl hd9_X7_at rfl g2 rfl ⟨by decide, by decide⟩ ⟨(Nat.zero_add _).symm, (Nat.zero_add _).symm⟩ (Nat.le_of_ble_eq_true rfl) dL_law_457 rfl (fun r9 h9 hq => ?_)
  obtain ⟨rfl, rfl⟩ := hq
  refine pw_icmp_eq (x := r) (y := r) (st := []) (tgt := 933) dL_law_460 (by decide) (fun _ => ?_) (fun q => absurd rfl q)
  refine pw_more (x := 2) (y := 20) ?_
  exact tail _ m3
set_option maxHeartbeats 4000000 in
set_option maxRecDepth 100000 in
theorem law_first {g : GT} {l : Launch} {I : Hp → Prop} {N j : Nat} {h : Hp} (hj : 6 * j + 6 ≤ scL g) (hL : scL g ≤ 3072) (hIh : I h) (tail : ∀ h, I h → PW g l m_L_law 46 (2 * N) (20 * N) 933 [some (.float 9), some (.ref 0), some (.ref 64), some (.ref 80), some (.int (nI (6 * j))), none, none] [] h (fun r9 _ => r9 = some (.int 1))) (hI : S_first I) : PW g l m_L_law 46 (2 + 2 * N) (20 + 20 * N) 465 [some (.float 9), some (.ref 0), some (.ref 64), some (.ref 80), some (.int (nI (6 * j))), none, none] [] h (fun r9 _ => r9 = some (.int 1)) := by
  have e1 : (nI (6 * j + 1)).toNatClampNeg = 6 * j + 1 := nI_clamp (by omega)
  obtain ⟨r, h2, ⟨o1, m1⟩, ⟨o2, m2⟩, m3⟩ := hI h hIh (scX g (6 * j + 1))
  obtain ⟨fs1, g1⟩ := oK_spec o1
  obtain ⟨fs2, g2⟩ := oK_spec o2
  refine pw_aload_n dL_law_465 rfl ?_
  refine pw_s_n dL_law_466 rfl ?_
  refine pw_iload dL_law_467 rfl ?_
  refine pw_iconst (v := 1) dL_law_469 (by decide) ?_
  refine pw_iadd dL_law_470 ?_
  rw [add6 j 1 1 rfl]
  refine pw_sld (vp_in_nI (by omega) (by omega)) dL_law_471 ?_
  rw [e1]
  refine pw_callV (kc2 := 2 + 2 * N) (ks2 := 20 + 20 * N) (as := [.int (scX g (6 * j + 1))]) (rest := []) (t_X6_first m1) gL_law_X6_first rfl hd9_X6_first rfl g1 rfl ⟨by decide, by decide⟩ ⟨(Nat.zero_add _).symm, (Nat.zero_add _).symm⟩ (Nat.le_of_ble_eq_true rfl) dL_law_472 rfl (fun r9 h9 hq => ?_)
  obtain ⟨rfl, rfl⟩ := hq
  refine pw_aload_n (st := [.int r]) dL_law_475 rfl ?_
  refine pw_s_n dL_law_476 rfl ?_
  refine pw_iload dL_law_477 rfl ?_
  refine pw_iconst (v := 1) dL_law_479 (by decide) ?_
  refine pw_iadd dL_law_480 ?_
  rw [add6 j 1 1 rfl]
  refine pw_sld (vp_in_nI (by omega) (by omega)) dL_law_481 ?_
  rw [e1]
  refine pw_callV (kc2 := 2 + 2 * N) (ks2 := 20 + 20 * N) (as := [.int (scX g (6 * j + 1))]) (rest := [.int r]) (t_X7_first m2) gL_law_X7_first rfl hd9_X7_first rfl g2 rfl ⟨by decide, by decide⟩ ⟨(Nat.zero_add _).symm, (Nat.zero_add _).symm⟩ (Nat.le_of_ble_eq_true rfl) dL_law_482 rfl (fun r9 h9 hq => ?_)
  obtain ⟨rfl, rfl⟩ := hq
  refine pw_icmp_eq (x := r) (y := r) (st := []) (tgt := 933) dL_law_485 (by decide) (fun _ => ?_) (fun q => absurd rfl q)
  refine pw_more (x := 2) (y := 20) ?_
  exact tail _ m3
set_option maxHeartbeats 4000000 in
set_option maxRecDepth 100000 in
theorem law_rank {g : GT} {l : Launch} {I : Hp → Prop} {N j : Nat} {h : Hp} (hj : 6 * j + 6 ≤ scL g) (hL : scL g ≤ 3072) (hIh : I h) (tail : ∀ h, I h → PW g l m_L_law 46 (2 * N) (20 * N) 933 [some (.float 9), some (.ref 0), some (.ref 64), some (.ref 80), some (.int (nI (6 * j))), none, none] [] h (fun r9 _ => r9 = some (.int 1))) (hI : S_rank I) : PW g l m_L_law 46 (2 + 2 * N) (20 + 20 * N) 490 [some (.float 9), some (.ref 0), some (.ref 64), some (.ref 80), some (.int (nI (6 * j))), none, none] [] h (fun r9 _ => r9 = some (.int 1)) := by
  obtain ⟨r, h1, h2, ⟨o1, m1⟩, ⟨o2, m2⟩, m3⟩ := hI h hIh
  obtain ⟨fs1, g1⟩ := oK_spec o1
  obtain ⟨fs2, g2⟩ := oK_spec o2
  refine pw_aload_n dL_law_490 rfl ?_
  refine pw_callV (kc2 := 2 + 2 * N) (ks2 := 20 + 20 * N) (as := []) (rest := []) (t_X6_rank m1) gL_law_X6_rank rfl hd9_X6_rank rfl g1 rfl ⟨by decide, by decide⟩ ⟨(Nat.zero_add _).symm, (Nat.zero_add _).symm⟩ (Nat.le_of_ble_eq_true rfl) dL_law_491 rfl (fun r9 h9 hq => ?_)
  obtain ⟨rfl, rfl⟩ := hq
  refine pw_aload_n (st := [.int r]) dL_law_494 rfl ?_
  refine pw_callV (kc2 := 2 + 2 * N) (ks2 := 20 + 20 * N) (as := []) (rest := [.int r]) (t_X7_rank m2) gL_law_X7_rank rfl hd9_X7_rank rfl g2 rfl ⟨by decide, by decide⟩ ⟨(Nat.zero_add _).symm, (Nat.zero_add _).symm⟩ (Nat.le_of_ble_eq_true rfl) dL_law_495 rfl (fun r9 h9 hq => ?_)
  obtain ⟨rfl, rfl⟩ := hq
  refine pw_icmp_eq (x := r) (y := r) (st := []) (tgt := 933) dL_law_498 (by decide) (fun _ => ?_) (fun q => absurd rfl q)
  refine pw_more (x := 2) (y := 20) ?_
  exact tail _ m3
set_option maxHeartbeats 4000000 in
set_option maxRecDepth 100000 in
theorem law_behind {g : GT} {l : Launch} {I : Hp → Prop} {N j : Nat} {h : Hp} (hj : 6 * j + 6 ≤ scL g) (hL : scL g ≤ 3072) (hIh : I h) (tail : ∀ h, I h → PW g l m_L_law 46 (2 * N) (20 * N) 933 [some (.float 9), some (.ref 0), some (.ref 64), some (.ref 80), some (.int (nI (6 * j))), none, none] [] h (fun r9 _ => r9 = some (.int 1))) (hI : S_behind I) : PW g l m_L_law 46 (2 + 2 * N) (20 + 20 * N) 503 [some (.float 9), some (.ref 0), some (.ref 64), some (.ref 80), some (.int (nI (6 * j))), none, none] [] h (fun r9 _ => r9 = some (.int 1)) := by
  obtain ⟨r, h1, h2, ⟨o1, m1⟩, ⟨o2, m2⟩, m3⟩ := hI h hIh
  obtain ⟨fs1, g1⟩ := oK_spec o1
  obtain ⟨fs2, g2⟩ := oK_spec o2
  refine pw_aload_n dL_law_503 rfl ?_
  refine pw_callV (kc2 := 2 + 2 * N) (ks2 := 20 + 20 * N) (as := []) (rest := []) (t_X6_behind m1) gL_law_X6_behind rfl hd9_X6_behind rfl g1 rfl ⟨by decide, by decide⟩ ⟨(Nat.zero_add _).symm, (Nat.zero_add _).symm⟩ (Nat.le_of_ble_eq_true rfl) dL_law_504 rfl (fun r9 h9 hq => ?_)
  obtain ⟨rfl, rfl⟩ := hq
  refine pw_aload_n (st := [.int r]) dL_law_507 rfl ?_
  refine pw_callV (kc2 := 2 + 2 * N) (ks2 := 20 + 20 * N) (as := []) (rest := [.int r]) (t_X7_behind m2) gL_law_X7_behind rfl hd9_X7_behind rfl g2 rfl ⟨by decide, by decide⟩ ⟨(Nat.zero_add _).symm, (Nat.zero_add _).symm⟩ (Nat.le_of_ble_eq_true rfl) dL_law_508 rfl (fun r9 h9 hq => ?_)
  obtain ⟨rfl, rfl⟩ := hq
  refine pw_icmp_eq (x := r) (y := r) (st := []) (tgt := 933) dL_law_511 (by decide) (fun _ => ?_) (fun q => absurd rfl q)
  refine pw_more (x := 2) (y := 20) ?_
  exact tail _ m3
set_option maxHeartbeats 4000000 in
set_option maxRecDepth 100000 in
theorem law_standing {g : GT} {l : Launch} {I : Hp → Prop} {N j : Nat} {h : Hp} (hj : 6 * j + 6 ≤ scL g) (hL : scL g ≤ 3072) (hIh : I h) (tail : ∀ h, I h → PW g l m_L_law 46 (2 * N) (20 * N) 933 [some (.float 9), some (.ref 0), some (.ref 64), some (.ref 80), some (.int (nI (6 * j))), none, none] [] h (fun r9 _ => r9 = some (.int 1))) (hI : S_standing I) : PW g l m_L_law 46 (2 + 2 * N) (20 + 20 * N) 516 [some (.float 9), some (.ref 0), some (.ref 64), some (.ref 80), some (.int (nI (6 * j))), none, none] [] h (fun r9 _ => r9 = some (.int 1)) := by
  have e1 : (nI (6 * j + 1)).toNatClampNeg = 6 * j + 1 := nI_clamp (by omega)
  have e2 : (nI (6 * j + 2)).toNatClampNeg = 6 * j + 2 := nI_clamp (by omega)
  obtain ⟨r, h1, h2, ⟨o1, m1⟩, ⟨o2, m2⟩, m3⟩ := hI h hIh (scX g (6 * j + 1)) (scX g (6 * j + 2))
  obtain ⟨fs1, g1⟩ := oK_spec o1
  obtain ⟨fs2, g2⟩ := oK_spec o2
  refine pw_aload_n dL_law_516 rfl ?_
  refine pw_s_n dL_law_517 rfl ?_
  refine pw_iload dL_law_518 rfl ?_
  refine pw_iconst (v := 1) dL_law_520 (by decide) ?_
  refine pw_iadd dL_law_521 ?_
  rw [add6 j 1 1 rfl]
  refine pw_sld (vp_in_nI (by omega) (by omega)) dL_law_522 ?_
  rw [e1]
  refine pw_s_n dL_law_523 rfl ?_
  refine pw_iload dL_law_524 rfl ?_
  refine pw_iconst (v := 2) dL_law_526 (by decide) ?_
  refine pw_iadd dL_law_527 ?_
  rw [add6 j 2 2 rfl]
  refine pw_sld (vp_in_nI (by omega) (by omega)) dL_law_528 ?_
  rw [e2]
  refine pw_callV (kc2 := 2 + 2 * N) (ks2 := 20 + 20 * N) (as := [.int (scX g (6 * j + 1)), .int (scX g (6 * j + 2))]) (rest := []) (t_X6_standing m1) gL_law_X6_standing rfl hd9_X6_standing rfl g1 rfl ⟨by decide, by decide⟩ ⟨(Nat.zero_add _).symm, (Nat.zero_add _).symm⟩ (Nat.le_of_ble_eq_true rfl) dL_law_529 rfl (fun r9 h9 hq => ?_)
  obtain ⟨rfl, rfl⟩ := hq
  refine pw_aload_n (st := [.int r]) dL_law_532 rfl ?_
  refine pw_s_n dL_law_533 rfl ?_
  refine pw_iload dL_law_534 rfl ?_
  refine pw_iconst (v := 1) dL_law_536 (by decide) ?_
  refine pw_iadd dL_law_537 ?_
  rw [add6 j 1 1 rfl]
  refine pw_sld (vp_in_nI (by omega) (by omega)) dL_law_538 ?_
  rw [e1]
  refine pw_s_n dL_law_539 rfl ?_
  refine pw_iload dL_law_540 rfl ?_
  refine pw_iconst (v := 2) dL_law_542 (by decide) ?_
  refine pw_iadd dL_law_543 ?_
  rw [add6 j 2 2 rfl]
  refine pw_sld (vp_in_nI (by omega) (by omega)) dL_law_544 ?_
  rw [e2]
  refine pw_callV (kc2 := 2 + 2 * N) (ks2 := 20 + 20 * N) (as := [.int (scX g (6 * j + 1)), .int (scX g (6 * j + 2))]) (rest := [.int r]) (t_X7_standing m2) gL_law_X7_standing rfl hd9_X7_standing rfl g2 rfl ⟨by decide, by decide⟩ ⟨(Nat.zero_add _).symm, (Nat.zero_add _).symm⟩ (Nat.le_of_ble_eq_true rfl) dL_law_545 rfl (fun r9 h9 hq => ?_)
  obtain ⟨rfl, rfl⟩ := hq
  refine pw_icmp_eq (x := r) (y := r) (st := []) (tgt := 933) dL_law_548 (by decide) (fun _ => ?_) (fun q => absurd rfl q)
  refine pw_more (x := 2) (y := 20) ?_
  exact tail _ m3
set_option maxHeartbeats 4000000 in
set_option maxRecDepth 100000 in
theorem law_may {g : GT} {l : Launch} {I : Hp → Prop} {N j : Nat} {h : Hp} (hj : 6 * j + 6 ≤ scL g) (hL : scL g ≤ 3072) (hIh : I h) (tail : ∀ h, I h → PW g l m_L_law 46 (2 * N) (20 * N) 933 [some (.float 9), some (.ref 0), some (.ref 64), some (.ref 80), some (.int (nI (6 * j))), none, none] [] h (fun r9 _ => r9 = some (.int 1))) (hI : S_may I) : PW g l m_L_law 46 (2 + 2 * N) (20 + 20 * N) 553 [some (.float 9), some (.ref 0), some (.ref 64), some (.ref 80), some (.int (nI (6 * j))), none, none] [] h (fun r9 _ => r9 = some (.int 1)) := by
  have e1 : (nI (6 * j + 1)).toNatClampNeg = 6 * j + 1 := nI_clamp (by omega)
  obtain ⟨r, h1, h2, ⟨o1, m1⟩, ⟨o2, m2⟩, m3⟩ := hI h hIh (scX g (6 * j + 1))
  obtain ⟨fs1, g1⟩ := oK_spec o1
  obtain ⟨fs2, g2⟩ := oK_spec o2
  refine pw_aload_n dL_law_553 rfl ?_
  refine pw_s_n dL_law_554 rfl ?_
  refine pw_iload dL_law_555 rfl ?_
  refine pw_iconst (v := 1) dL_law_557 (by decide) ?_
  refine pw_iadd dL_law_558 ?_
  rw [add6 j 1 1 rfl]
  refine pw_sld (vp_in_nI (by omega) (by omega)) dL_law_559 ?_
  rw [e1]
  refine pw_callV (kc2 := 2 + 2 * N) (ks2 := 20 + 20 * N) (as := [.int (scX g (6 * j + 1))]) (rest := []) (t_X6_may m1) gL_law_X6_may rfl hd9_X6_may rfl g1 rfl ⟨by decide, by decide⟩ ⟨(Nat.zero_add _).symm, (Nat.zero_add _).symm⟩ (Nat.le_of_ble_eq_true rfl) dL_law_560 rfl (fun r9 h9 hq => ?_)
  obtain ⟨rfl, rfl⟩ := hq
  refine pw_aload_n (st := [.int r]) dL_law_563 rfl ?_
  refine pw_s_n dL_law_564 rfl ?_
  refine pw_iload dL_law_565 rfl ?_
  refine pw_iconst (v := 1) dL_law_567 (by decide) ?_
  refine pw_iadd dL_law_568 ?_
  rw [add6 j 1 1 rfl]
  refine pw_sld (vp_in_nI (by omega) (by omega)) dL_law_569 ?_
  rw [e1]
  refine pw_callV (kc2 := 2 + 2 * N) (ks2 := 20 + 20 * N) (as := [.int (scX g (6 * j + 1))]) (rest := [.int r]) (t_X7_may m2) gL_law_X7_may rfl hd9_X7_may rfl g2 rfl ⟨by decide, by decide⟩ ⟨(Nat.zero_add _).symm, (Nat.zero_add _).symm⟩ (Nat.le_of_ble_eq_true rfl) dL_law_570 rfl (fun r9 h9 hq => ?_)
  obtain ⟨rfl, rfl⟩ := hq
  refine pw_icmp_eq (x := r) (y := r) (st := []) (tgt := 933) dL_law_573 (by decide) (fun _ => ?_) (fun q => absurd rfl q)
  refine pw_more (x := 2) (y := 20) ?_
  exact tail _ m3
set_option maxHeartbeats 4000000 in
set_option maxRecDepth 100000 in
theorem law_sure {g : GT} {l : Launch} {I : Hp → Prop} {N j : Nat} {h : Hp} (hj : 6 * j + 6 ≤ scL g) (hL : scL g ≤ 3072) (hIh : I h) (tail : ∀ h, I h → PW g l m_L_law 46 (2 * N) (20 * N) 933 [some (.float 9), some (.ref 0), some (.ref 64), some (.ref 80), some (.int (nI (6 * j))), none, none] [] h (fun r9 _ => r9 = some (.int 1))) (hI : S_sure I) : PW g l m_L_law 46 (2 + 2 * N) (20 + 20 * N) 578 [some (.float 9), some (.ref 0), some (.ref 64), some (.ref 80), some (.int (nI (6 * j))), none, none] [] h (fun r9 _ => r9 = some (.int 1)) := by
  obtain ⟨r, h1, h2, ⟨o1, m1⟩, ⟨o2, m2⟩, m3⟩ := hI h hIh
  obtain ⟨fs1, g1⟩ := oK_spec o1
  obtain ⟨fs2, g2⟩ := oK_spec o2
  refine pw_aload_n dL_law_578 rfl ?_
  refine pw_callV (kc2 := 2 + 2 * N) (ks2 := 20 + 20 * N) (as := []) (rest := []) (t_X6_sure m1) gL_law_X6_sure rfl hd9_X6_sure rfl g1 rfl ⟨by decide, by decide⟩ ⟨(Nat.zero_add _).symm, (Nat.zero_add _).symm⟩ (Nat.le_of_ble_eq_true rfl) dL_law_579 rfl (fun r9 h9 hq => ?_)
  obtain ⟨rfl, rfl⟩ := hq
  refine pw_aload_n (st := [.int r]) dL_law_582 rfl ?_
  refine pw_callV (kc2 := 2 + 2 * N) (ks2 := 20 + 20 * N) (as := []) (rest := [.int r]) (t_X7_sure m2) gL_law_X7_sure rfl hd9_X7_sure rfl g2 rfl ⟨by decide, by decide⟩ ⟨(Nat.zero_add _).symm, (Nat.zero_add _).symm⟩ (Nat.le_of_ble_eq_true rfl) dL_law_583 rfl (fun r9 h9 hq => ?_)
  obtain ⟨rfl, rfl⟩ := hq
  refine pw_icmp_eq (x := r) (y := r) (st := []) (tgt := 933) dL_law_586 (by decide) (fun _ => ?_) (fun q => absurd rfl q)
  refine pw_more (x := 2) (y := 20) ?_
  exact tail _ m3
set_option maxHeartbeats 4000000 in
set_option maxRecDepth 100000 in
theorem law_extended {g : GT} {l : Launch} {I : Hp → Prop} {N j : Nat} {h : Hp} (hj : 6 * j + 6 ≤ scL g) (hL : scL g ≤ 3072) (hIh : I h) (tail : ∀ h, I h → PW g l m_L_law 46 (2 * N) (20 * N) 933 [some (.float 9), some (.ref 0), some (.ref 64), some (.ref 80), some (.int (nI (6 * j))), none, none] [] h (fun r9 _ => r9 = some (.int 1))) (hI : S_extended I) : PW g l m_L_law 46 (2 + 2 * N) (20 + 20 * N) 591 [some (.float 9), some (.ref 0), some (.ref 64), some (.ref 80), some (.int (nI (6 * j))), none, none] [] h (fun r9 _ => r9 = some (.int 1)) := by
  have e1 : (nI (6 * j + 1)).toNatClampNeg = 6 * j + 1 := nI_clamp (by omega)
  have e2 : (nI (6 * j + 2)).toNatClampNeg = 6 * j + 2 := nI_clamp (by omega)
  obtain ⟨r, h1, h2, ⟨o1, m1⟩, ⟨o2, m2⟩, m3⟩ := hI h hIh (scX g (6 * j + 1)) (scX g (6 * j + 2))
  obtain ⟨fs1, g1⟩ := oK_spec o1
  obtain ⟨fs2, g2⟩ := oK_spec o2
  refine pw_aload_n dL_law_591 rfl ?_
  refine pw_s_n dL_law_592 rfl ?_
  refine pw_iload dL_law_593 rfl ?_
  refine pw_iconst (v := 1) dL_law_595 (by decide) ?_
  refine pw_iadd dL_law_596 ?_
  rw [add6 j 1 1 rfl]
  refine pw_sld (vp_in_nI (by omega) (by omega)) dL_law_597 ?_
  rw [e1]
  refine pw_s_n dL_law_598 rfl ?_
  refine pw_iload dL_law_599 rfl ?_
  refine pw_iconst (v := 2) dL_law_601 (by decide) ?_
  refine pw_iadd dL_law_602 ?_
  rw [add6 j 2 2 rfl]
  refine pw_sld (vp_in_nI (by omega) (by omega)) dL_law_603 ?_
  rw [e2]
  refine pw_callV (kc2 := 2 + 2 * N) (ks2 := 20 + 20 * N) (as := [.int (scX g (6 * j + 1)), .int (scX g (6 * j + 2))]) (rest := []) (t_X6_extended m1) gL_law_X6_extended rfl hd9_X6_extended rfl g1 rfl ⟨by decide, by decide⟩ ⟨(Nat.zero_add _).symm, (Nat.zero_add _).symm⟩ (Nat.le_of_ble_eq_true rfl) dL_law_604 rfl (fun r9 h9 hq => ?_)
  obtain ⟨rfl, rfl⟩ := hq
  refine pw_aload_n (st := [.int r]) dL_law_607 rfl ?_
  refine pw_s_n dL_law_608 rfl ?_
  refine pw_iload dL_law_609 rfl ?_
  refine pw_iconst (v := 1) dL_law_611 (by decide) ?_
  refine pw_iadd dL_law_612 ?_
  rw [add6 j 1 1 rfl]
  refine pw_sld (vp_in_nI (by omega) (by omega)) dL_law_613 ?_
  rw [e1]
  refine pw_s_n dL_law_614 rfl ?_
  refine pw_iload dL_law_615 rfl ?_
  refine pw_iconst (v := 2) dL_law_617 (by decide) ?_
  refine pw_iadd dL_law_618 ?_
  rw [add6 j 2 2 rfl]
  refine pw_sld (vp_in_nI (by omega) (by omega)) dL_law_619 ?_
  rw [e2]
  refine pw_callV (kc2 := 2 + 2 * N) (ks2 := 20 + 20 * N) (as := [.int (scX g (6 * j + 1)), .int (scX g (6 * j + 2))]) (rest := [.int r]) (t_X7_extended m2) gL_law_X7_extended rfl hd9_X7_extended rfl g2 rfl ⟨by decide, by decide⟩ ⟨(Nat.zero_add _).symm, (Nat.zero_add _).symm⟩ (Nat.le_of_ble_eq_true rfl) dL_law_620 rfl (fun r9 h9 hq => ?_)
  obtain ⟨rfl, rfl⟩ := hq
  refine pw_icmp_eq (x := r) (y := r) (st := []) (tgt := 933) dL_law_623 (by decide) (fun _ => ?_) (fun q => absurd rfl q)
  refine pw_more (x := 2) (y := 20) ?_
  exact tail _ m3
set_option maxHeartbeats 4000000 in
set_option maxRecDepth 100000 in
theorem law_made {g : GT} {l : Launch} {I : Hp → Prop} {N j : Nat} {h : Hp} (hj : 6 * j + 6 ≤ scL g) (hL : scL g ≤ 3072) (hIh : I h) (tail : ∀ h, I h → PW g l m_L_law 46 (2 * N) (20 * N) 933 [some (.float 9), some (.ref 0), some (.ref 64), some (.ref 80), some (.int (nI (6 * j))), none, none] [] h (fun r9 _ => r9 = some (.int 1))) (hI : S_made I) : PW g l m_L_law 46 (2 + 2 * N) (20 + 20 * N) 628 [some (.float 9), some (.ref 0), some (.ref 64), some (.ref 80), some (.int (nI (6 * j))), none, none] [] h (fun r9 _ => r9 = some (.int 1)) := by
  have e1 : (nI (6 * j + 1)).toNatClampNeg = 6 * j + 1 := nI_clamp (by omega)
  obtain ⟨r, h1, h2, ⟨o1, m1⟩, ⟨o2, m2⟩, m3⟩ := hI h hIh (scX g (6 * j + 1))
  obtain ⟨fs1, g1⟩ := oK_spec o1
  obtain ⟨fs2, g2⟩ := oK_spec o2
  refine pw_aload_n dL_law_628 rfl ?_
  refine pw_s_n dL_law_629 rfl ?_
  refine pw_iload dL_law_630 rfl ?_
  refine pw_iconst (v := 1) dL_law_632 (by decide) ?_
  refine pw_iadd dL_law_633 ?_
  rw [add6 j 1 1 rfl]
  refine pw_sld (vp_in_nI (by omega) (by omega)) dL_law_634 ?_
  rw [e1]
  refine pw_callV (kc2 := 2 + 2 * N) (ks2 := 20 + 20 * N) (as := [.int (scX g (6 * j + 1))]) (rest := []) (t_X6_made m1) gL_law_X6_made rfl hd9_X6_made rfl g1 rfl ⟨by decide, by decide⟩ ⟨(Nat.zero_add _).symm, (Nat.zero_add _).symm⟩ (Nat.le_of_ble_eq_true rfl) dL_law_635 rfl (fun r9 h9 hq => ?_)
  obtain ⟨rfl, rfl⟩ := hq
  refine pw_aload_n (st := [.int r]) dL_law_638 rfl ?_
  refine pw_s_n dL_law_639 rfl ?_
  refine pw_iload dL_law_640 rfl ?_
  refine pw_iconst (v := 1) dL_law_642 (by decide) ?_
  refine pw_iadd dL_law_643 ?_
  rw [add6 j 1 1 rfl]
  refine pw_sld (vp_in_nI (by omega) (by omega)) dL_law_644 ?_
  rw [e1]
  refine pw_callV (kc2 := 2 + 2 * N) (ks2 := 20 + 20 * N) (as := [.int (scX g (6 * j + 1))]) (rest := [.int r]) (t_X7_made m2) gL_law_X7_made rfl hd9_X7_made rfl g2 rfl ⟨by decide, by decide⟩ ⟨(Nat.zero_add _).symm, (Nat.zero_add _).symm⟩ (Nat.le_of_ble_eq_true rfl) dL_law_645 rfl (fun r9 h9 hq => ?_)
  obtain ⟨rfl, rfl⟩ := hq
  refine pw_icmp_eq (x := r) (y := r) (st := []) (tgt := 933) dL_law_648 (by decide) (fun _ => ?_) (fun q => absurd rfl q)
  refine pw_more (x := 2) (y := 20) ?_
  exact tail _ m3
set_option maxHeartbeats 4000000 in
set_option maxRecDepth 100000 in
theorem law_third {g : GT} {l : Launch} {I : Hp → Prop} {N j : Nat} {h : Hp} (hj : 6 * j + 6 ≤ scL g) (hL : scL g ≤ 3072) (hIh : I h) (tail : ∀ h, I h → PW g l m_L_law 46 (2 * N) (20 * N) 933 [some (.float 9), some (.ref 0), some (.ref 64), some (.ref 80), some (.int (nI (6 * j))), none, none] [] h (fun r9 _ => r9 = some (.int 1))) (hI : S_third I) : PW g l m_L_law 46 (2 + 2 * N) (20 + 20 * N) 653 [some (.float 9), some (.ref 0), some (.ref 64), some (.ref 80), some (.int (nI (6 * j))), none, none] [] h (fun r9 _ => r9 = some (.int 1)) := by
  have e1 : (nI (6 * j + 1)).toNatClampNeg = 6 * j + 1 := nI_clamp (by omega)
  have e2 : (nI (6 * j + 2)).toNatClampNeg = 6 * j + 2 := nI_clamp (by omega)
  obtain ⟨r, h2, ⟨o1, m1⟩, ⟨o2, m2⟩, m3⟩ := hI h hIh (scX g (6 * j + 1)) (scX g (6 * j + 2))
  obtain ⟨fs1, g1⟩ := oK_spec o1
  obtain ⟨fs2, g2⟩ := oK_spec o2
  refine pw_aload_n dL_law_653 rfl ?_
  refine pw_s_n dL_law_654 rfl ?_
  refine pw_iload dL_law_655 rfl ?_
  refine pw_iconst (v := 1) dL_law_657 (by decide) ?_
  refine pw_iadd dL_law_658 ?_
  rw [add6 j 1 1 rfl]
  refine pw_sld (vp_in_nI (by omega) (by omega)) dL_law_659 ?_
  rw [e1]
  refine pw_s_n dL_law_660 rfl ?_
  refine pw_iload dL_law_661 rfl ?_
  refine pw_iconst (v := 2) dL_law_663 (by decide) ?_
  refine pw_iadd dL_law_664 ?_
  rw [add6 j 2 2 rfl]
  refine pw_sld (vp_in_nI (by omega) (by omega)) dL_law_665 ?_
  rw [e2]
  refine pw_callV (kc2 := 2 + 2 * N) (ks2 := 20 + 20 * N) (as := [.int (scX g (6 * j + 1)), .int (scX g (6 * j + 2))]) (rest := []) (t_X6_third m1) gL_law_X6_third rfl hd9_X6_third rfl g1 rfl ⟨by decide, by decide⟩ ⟨(Nat.zero_add _).symm, (Nat.zero_add _).symm⟩ (Nat.le_of_ble_eq_true rfl) dL_law_666 rfl (fun r9 h9 hq => ?_)
  obtain ⟨rfl, rfl⟩ := hq
  refine pw_aload_n (st := [.int r]) dL_law_669 rfl ?_
  refine pw_s_n dL_law_670 rfl ?_
  refine pw_iload dL_law_671 rfl ?_
  refine pw_iconst (v := 1) dL_law_673 (by decide) ?_
  refine pw_iadd dL_law_674 ?_
  rw [add6 j 1 1 rfl]
  refine pw_sld (vp_in_nI (by omega) (by omega)) dL_law_675 ?_
  rw [e1]
  refine pw_s_n dL_law_676 rfl ?_
  refine pw_iload dL_law_677 rfl ?_
  refine pw_iconst (v := 2) dL_law_679 (by decide) ?_
  refine pw_iadd dL_law_680 ?_
  rw [add6 j 2 2 rfl]
  refine pw_sld (vp_in_nI (by omega) (by omega)) dL_law_681 ?_
  rw [e2]
  refine pw_callV (kc2 := 2 + 2 * N) (ks2 := 20 + 20 * N) (as := [.int (scX g (6 * j + 1)), .int (scX g (6 * j + 2))]) (rest := [.int r]) (t_X7_third m2) gL_law_X7_third rfl hd9_X7_third rfl g2 rfl ⟨by decide, by decide⟩ ⟨(Nat.zero_add _).symm, (Nat.zero_add _).symm⟩ (Nat.le_of_ble_eq_true rfl) dL_law_682 rfl (fun r9 h9 hq => ?_)
  obtain ⟨rfl, rfl⟩ := hq
  refine pw_icmp_eq (x := r) (y := r) (st := []) (tgt := 933) dL_law_685 (by decide) (fun _ => ?_) (fun q => absurd rfl q)
  refine pw_more (x := 2) (y := 20) ?_
  exact tail _ m3
set_option maxHeartbeats 4000000 in
set_option maxRecDepth 100000 in
theorem law_hole {g : GT} {l : Launch} {I : Hp → Prop} {N j : Nat} {h : Hp} (hj : 6 * j + 6 ≤ scL g) (hL : scL g ≤ 3072) (hIh : I h) (tail : ∀ h, I h → PW g l m_L_law 46 (2 * N) (20 * N) 933 [some (.float 9), some (.ref 0), some (.ref 64), some (.ref 80), some (.int (nI (6 * j))), none, none] [] h (fun r9 _ => r9 = some (.int 1))) (hI : S_hole I) : PW g l m_L_law 46 (2 + 2 * N) (20 + 20 * N) 690 [some (.float 9), some (.ref 0), some (.ref 64), some (.ref 80), some (.int (nI (6 * j))), none, none] [] h (fun r9 _ => r9 = some (.int 1)) := by
  have e1 : (nI (6 * j + 1)).toNatClampNeg = 6 * j + 1 := nI_clamp (by omega)
  have e2 : (nI (6 * j + 2)).toNatClampNeg = 6 * j + 2 := nI_clamp (by omega)
  by_cases hz : scX g (6 * j + 2) = 0
  · obtain ⟨r, h1, h2, ⟨o1, m1⟩, ⟨o2, m2⟩, m3⟩ := hI h hIh (scX g (6 * j + 1)) (0 : Int32) (Or.inl rfl)
    obtain ⟨fs1, g1⟩ := oK_spec o1
    obtain ⟨fs2, g2⟩ := oK_spec o2
    refine pw_aload_n dL_law_690 rfl ?_
    refine pw_s_n dL_law_691 rfl ?_
    refine pw_iload dL_law_692 rfl ?_
    refine pw_iconst (v := 1) dL_law_694 (by decide) ?_
    refine pw_iadd dL_law_695 ?_
    rw [add6 j 1 1 rfl]
    refine pw_sld (vp_in_nI (by omega) (by omega)) dL_law_696 ?_
    rw [e1]
    refine pw_s_n dL_law_697 rfl ?_
    refine pw_iload dL_law_698 rfl ?_
    refine pw_iconst (v := 2) dL_law_700 (by decide) ?_
    refine pw_iadd dL_law_701 ?_
    rw [add6 j 2 2 rfl]
    refine pw_sld (vp_in_nI (by omega) (by omega)) dL_law_702 ?_
    rw [e2]
    refine pw_if_eq (tgt := 710) dL_law_703 (by decide) (fun _ => ?_) (fun q => absurd hz q)
    refine pw_iconst (v := 0) dL_law_710 (by decide) ?_
    refine pw_callV (kc2 := 2 * N) (ks2 := 20 * N) (as := [.int (scX g (6 * j + 1)), .int (0 : Int32)]) (rest := []) (t_X6_hole m1) gL_law_X6_hole rfl hd9_X6_hole rfl g1 rfl ⟨by decide, by decide⟩ ⟨rfl, rfl⟩ (Nat.le_of_ble_eq_true rfl) dL_law_711 rfl (fun r9 h9 hq => ?_)
    obtain ⟨rfl, rfl⟩ := hq
    refine pw_aload_n (st := [.int r]) dL_law_714 rfl ?_
    refine pw_s_n dL_law_715 rfl ?_
    refine pw_iload dL_law_716 rfl ?_
    refine pw_iconst (v := 1) dL_law_718 (by decide) ?_
    refine pw_iadd dL_law_719 ?_
    rw [add6 j 1 1 rfl]
    refine pw_sld (vp_in_nI (by omega) (by omega)) dL_law_720 ?_
    rw [e1]
    refine pw_s_n dL_law_721 rfl ?_
    refine pw_iload dL_law_722 rfl ?_
    refine pw_iconst (v := 2) dL_law_724 (by decide) ?_
    refine pw_iadd dL_law_725 ?_
    rw [add6 j 2 2 rfl]
    refine pw_sld (vp_in_nI (by omega) (by omega)) dL_law_726 ?_
    rw [e2]
    refine pw_if_eq (tgt := 734) dL_law_727 (by decide) (fun _ => ?_) (fun q => absurd hz q)
    refine pw_iconst (v := 0) dL_law_734 (by decide) ?_
    refine pw_callV (kc2 := 2 * N) (ks2 := 20 * N) (as := [.int (scX g (6 * j + 1)), .int (0 : Int32)]) (rest := [.int r]) (t_X7_hole m2) gL_law_X7_hole rfl hd9_X7_hole rfl g2 rfl ⟨by decide, by decide⟩ ⟨(Nat.zero_add _).symm, (Nat.zero_add _).symm⟩ (Nat.le_of_ble_eq_true rfl) dL_law_735 rfl (fun r9 h9 hq => ?_)
    obtain ⟨rfl, rfl⟩ := hq
    refine pw_icmp_eq (x := r) (y := r) (st := []) (tgt := 933) dL_law_738 (by decide) (fun _ => ?_) (fun q => absurd rfl q)
    exact tail _ m3
  · obtain ⟨r, h1, h2, ⟨o1, m1⟩, ⟨o2, m2⟩, m3⟩ := hI h hIh (scX g (6 * j + 1)) (1 : Int32) (Or.inr rfl)
    obtain ⟨fs1, g1⟩ := oK_spec o1
    obtain ⟨fs2, g2⟩ := oK_spec o2
    refine pw_aload_n dL_law_690 rfl ?_
    refine pw_s_n dL_law_691 rfl ?_
    refine pw_iload dL_law_692 rfl ?_
    refine pw_iconst (v := 1) dL_law_694 (by decide) ?_
    refine pw_iadd dL_law_695 ?_
    rw [add6 j 1 1 rfl]
    refine pw_sld (vp_in_nI (by omega) (by omega)) dL_law_696 ?_
    rw [e1]
    refine pw_s_n dL_law_697 rfl ?_
    refine pw_iload dL_law_698 rfl ?_
    refine pw_iconst (v := 2) dL_law_700 (by decide) ?_
    refine pw_iadd dL_law_701 ?_
    rw [add6 j 2 2 rfl]
    refine pw_sld (vp_in_nI (by omega) (by omega)) dL_law_702 ?_
    rw [e2]
    refine pw_if_eq (tgt := 710) dL_law_703 (by decide) (fun q => absurd q hz) (fun _ => ?_)
    refine pw_iconst (v := 1) dL_law_706 (by decide) ?_
    refine pw_goto (tgt := 711) dL_law_707 (by decide) ?_
    refine pw_callV (kc2 := 2 * N) (ks2 := 20 * N) (as := [.int (scX g (6 * j + 1)), .int (1 : Int32)]) (rest := []) (t_X6_hole m1) gL_law_X6_hole rfl hd9_X6_hole rfl g1 rfl ⟨by decide, by decide⟩ ⟨rfl, rfl⟩ (Nat.le_of_ble_eq_true rfl) dL_law_711 rfl (fun r9 h9 hq => ?_)
    obtain ⟨rfl, rfl⟩ := hq
    refine pw_aload_n (st := [.int r]) dL_law_714 rfl ?_
    refine pw_s_n dL_law_715 rfl ?_
    refine pw_iload dL_law_716 rfl ?_
    refine pw_iconst (v := 1) dL_law_718 (by decide) ?_
    refine pw_iadd dL_law_719 ?_
    rw [add6 j 1 1 rfl]
    refine pw_sld (vp_in_nI (by omega) (by omega)) dL_law_720 ?_
    rw [e1]
    refine pw_s_n dL_law_721 rfl ?_
    refine pw_iload dL_law_722 rfl ?_
    refine pw_iconst (v := 2) dL_law_724 (by decide) ?_
    refine pw_iadd dL_law_725 ?_
    rw [add6 j 2 2 rfl]
    refine pw_sld (vp_in_nI (by omega) (by omega)) dL_law_726 ?_
    rw [e2]
    refine pw_if_eq (tgt := 734) dL_law_727 (by decide) (fun q => absurd q hz) (fun _ => ?_)
    refine pw_iconst (v := 1) dL_law_730 (by decide) ?_
    refine pw_goto (tgt := 735) dL_law_731 (by decide) ?_
    refine pw_callV (kc2 := 2 * N) (ks2 := 20 * N) (as := [.int (scX g (6 * j + 1)), .int (1 : Int32)]) (rest := [.int r]) (t_X7_hole m2) gL_law_X7_hole rfl hd9_X7_hole rfl g2 rfl ⟨by decide, by decide⟩ ⟨(Nat.zero_add _).symm, (Nat.zero_add _).symm⟩ (Nat.le_of_ble_eq_true rfl) dL_law_735 rfl (fun r9 h9 hq => ?_)
    obtain ⟨rfl, rfl⟩ := hq
    refine pw_icmp_eq (x := r) (y := r) (st := []) (tgt := 933) dL_law_738 (by decide) (fun _ => ?_) (fun q => absurd rfl q)
    exact tail _ m3
set_option maxHeartbeats 4000000 in
set_option maxRecDepth 100000 in
theorem law_pair {g : GT} {l : Launch} {I : Hp → Prop} {N j : Nat} {h : Hp} (hj : 6 * j + 6 ≤ scL g) (hL : scL g ≤ 3072) (hIh : I h) (tail : ∀ h, I h → PW g l m_L_law 46 (2 * N) (20 * N) 933 [some (.float 9), some (.ref 0), some (.ref 64), some (.ref 80), some (.int (nI (6 * j))), none, none] [] h (fun r9 _ => r9 = some (.int 1))) (hI : S_pair I) : PW g l m_L_law 46 (2 + 2 * N) (20 + 20 * N) 743 [some (.float 9), some (.ref 0), some (.ref 64), some (.ref 80), some (.int (nI (6 * j))), none, none] [] h (fun r9 _ => r9 = some (.int 1)) := by
  have e1 : (nI (6 * j + 1)).toNatClampNeg = 6 * j + 1 := nI_clamp (by omega)
  have e2 : (nI (6 * j + 2)).toNatClampNeg = 6 * j + 2 := nI_clamp (by omega)
  by_cases hz : scX g (6 * j + 2) = 0
  · obtain ⟨r, h1, h2, ⟨o1, m1⟩, ⟨o2, m2⟩, m3⟩ := hI h hIh (scX g (6 * j + 1)) (0 : Int32) (Or.inl rfl)
    obtain ⟨fs1, g1⟩ := oK_spec o1
    obtain ⟨fs2, g2⟩ := oK_spec o2
    refine pw_aload_n dL_law_743 rfl ?_
    refine pw_s_n dL_law_744 rfl ?_
    refine pw_iload dL_law_745 rfl ?_
    refine pw_iconst (v := 1) dL_law_747 (by decide) ?_
    refine pw_iadd dL_law_748 ?_
    rw [add6 j 1 1 rfl]
    refine pw_sld (vp_in_nI (by omega) (by omega)) dL_law_749 ?_
    rw [e1]
    refine pw_s_n dL_law_750 rfl ?_
    refine pw_iload dL_law_751 rfl ?_
    refine pw_iconst (v := 2) dL_law_753 (by decide) ?_
    refine pw_iadd dL_law_754 ?_
    rw [add6 j 2 2 rfl]
    refine pw_sld (vp_in_nI (by omega) (by omega)) dL_law_755 ?_
    rw [e2]
    refine pw_if_eq (tgt := 763) dL_law_756 (by decide) (fun _ => ?_) (fun q => absurd hz q)
    refine pw_iconst (v := 0) dL_law_763 (by decide) ?_
    refine pw_callV (kc2 := 2 * N) (ks2 := 20 * N) (as := [.int (scX g (6 * j + 1)), .int (0 : Int32)]) (rest := []) (t_X6_pair m1) gL_law_X6_pair rfl hd9_X6_pair rfl g1 rfl ⟨by decide, by decide⟩ ⟨rfl, rfl⟩ (Nat.le_of_ble_eq_true rfl) dL_law_764 rfl (fun r9 h9 hq => ?_)
    obtain ⟨rfl, rfl⟩ := hq
    refine pw_aload_n (st := [.int r]) dL_law_767 rfl ?_
    refine pw_s_n dL_law_768 rfl ?_
    refine pw_iload dL_law_769 rfl ?_
    refine pw_iconst (v := 1) dL_law_771 (by decide) ?_
    refine pw_iadd dL_law_772 ?_
    rw [add6 j 1 1 rfl]
    refine pw_sld (vp_in_nI (by omega) (by omega)) dL_law_773 ?_
    rw [e1]
    refine pw_s_n dL_law_774 rfl ?_
    refine pw_iload dL_law_775 rfl ?_
    refine pw_iconst (v := 2) dL_law_777 (by decide) ?_
    refine pw_iadd dL_law_778 ?_
    rw [add6 j 2 2 rfl]
    refine pw_sld (vp_in_nI (by omega) (by omega)) dL_law_779 ?_
    rw [e2]
    refine pw_if_eq (tgt := 787) dL_law_780 (by decide) (fun _ => ?_) (fun q => absurd hz q)
    refine pw_iconst (v := 0) dL_law_787 (by decide) ?_
    refine pw_callV (kc2 := 2 * N) (ks2 := 20 * N) (as := [.int (scX g (6 * j + 1)), .int (0 : Int32)]) (rest := [.int r]) (t_X7_pair m2) gL_law_X7_pair rfl hd9_X7_pair rfl g2 rfl ⟨by decide, by decide⟩ ⟨(Nat.zero_add _).symm, (Nat.zero_add _).symm⟩ (Nat.le_of_ble_eq_true rfl) dL_law_788 rfl (fun r9 h9 hq => ?_)
    obtain ⟨rfl, rfl⟩ := hq
    refine pw_icmp_eq (x := r) (y := r) (st := []) (tgt := 933) dL_law_791 (by decide) (fun _ => ?_) (fun q => absurd rfl q)
    exact tail _ m3
  · obtain ⟨r, h1, h2, ⟨o1, m1⟩, ⟨o2, m2⟩, m3⟩ := hI h hIh (scX g (6 * j + 1)) (1 : Int32) (Or.inr rfl)
    obtain ⟨fs1, g1⟩ := oK_spec o1
    obtain ⟨fs2, g2⟩ := oK_spec o2
    refine pw_aload_n dL_law_743 rfl ?_
    refine pw_s_n dL_law_744 rfl ?_
    refine pw_iload dL_law_745 rfl ?_
    refine pw_iconst (v := 1) dL_law_747 (by decide) ?_
    refine pw_iadd dL_law_748 ?_
    rw [add6 j 1 1 rfl]
    refine pw_sld (vp_in_nI (by omega) (by omega)) dL_law_749 ?_
    rw [e1]
    refine pw_s_n dL_law_750 rfl ?_
    refine pw_iload dL_law_751 rfl ?_
    refine pw_iconst (v := 2) dL_law_753 (by decide) ?_
    refine pw_iadd dL_law_754 ?_
    rw [add6 j 2 2 rfl]
    refine pw_sld (vp_in_nI (by omega) (by omega)) dL_law_755 ?_
    rw [e2]
    refine pw_if_eq (tgt := 763) dL_law_756 (by decide) (fun q => absurd q hz) (fun _ => ?_)
    refine pw_iconst (v := 1) dL_law_759 (by decide) ?_
    refine pw_goto (tgt := 764) dL_law_760 (by decide) ?_
    refine pw_callV (kc2 := 2 * N) (ks2 := 20 * N) (as := [.int (scX g (6 * j + 1)), .int (1 : Int32)]) (rest := []) (t_X6_pair m1) gL_law_X6_pair rfl hd9_X6_pair rfl g1 rfl ⟨by decide, by decide⟩ ⟨rfl, rfl⟩ (Nat.le_of_ble_eq_true rfl) dL_law_764 rfl (fun r9 h9 hq => ?_)
    obtain ⟨rfl, rfl⟩ := hq
    refine pw_aload_n (st := [.int r]) dL_law_767 rfl ?_
    refine pw_s_n dL_law_768 rfl ?_
    refine pw_iload dL_law_769 rfl ?_
    refine pw_iconst (v := 1) dL_law_771 (by decide) ?_
    refine pw_iadd dL_law_772 ?_
    rw [add6 j 1 1 rfl]
    refine pw_sld (vp_in_nI (by omega) (by omega)) dL_law_773 ?_
    rw [e1]
    refine pw_s_n dL_law_774 rfl ?_
    refine pw_iload dL_law_775 rfl ?_
    refine pw_iconst (v := 2) dL_law_777 (by decide) ?_
    refine pw_iadd dL_law_778 ?_
    rw [add6 j 2 2 rfl]
    refine pw_sld (vp_in_nI (by omega) (by omega)) dL_law_779 ?_
    rw [e2]
    refine pw_if_eq (tgt := 787) dL_law_780 (by decide) (fun q => absurd q hz) (fun _ => ?_)
    refine pw_iconst (v := 1) dL_law_783 (by decide) ?_
    refine pw_goto (tgt := 788) dL_law_784 (by decide) ?_
    refine pw_callV (kc2 := 2 * N) (ks2 := 20 * N) (as := [.int (scX g (6 * j + 1)), .int (1 : Int32)]) (rest := [.int r]) (t_X7_pair m2) gL_law_X7_pair rfl hd9_X7_pair rfl g2 rfl ⟨by decide, by decide⟩ ⟨(Nat.zero_add _).symm, (Nat.zero_add _).symm⟩ (Nat.le_of_ble_eq_true rfl) dL_law_788 rfl (fun r9 h9 hq => ?_)
    obtain ⟨rfl, rfl⟩ := hq
    refine pw_icmp_eq (x := r) (y := r) (st := []) (tgt := 933) dL_law_791 (by decide) (fun _ => ?_) (fun q => absurd rfl q)
    exact tail _ m3
set_option maxHeartbeats 4000000 in
set_option maxRecDepth 100000 in
theorem law_pin {g : GT} {l : Launch} {I : Hp → Prop} {N j : Nat} {h : Hp} (hj : 6 * j + 6 ≤ scL g) (hL : scL g ≤ 3072) (hIh : I h) (tail : ∀ h, I h → PW g l m_L_law 46 (2 * N) (20 * N) 933 [some (.float 9), some (.ref 0), some (.ref 64), some (.ref 80), some (.int (nI (6 * j))), none, none] [] h (fun r9 _ => r9 = some (.int 1))) (hI : S_pin I) : PW g l m_L_law 46 (2 + 2 * N) (20 + 20 * N) 796 [some (.float 9), some (.ref 0), some (.ref 64), some (.ref 80), some (.int (nI (6 * j))), none, none] [] h (fun r9 _ => r9 = some (.int 1)) := by
  have e1 : (nI (6 * j + 1)).toNatClampNeg = 6 * j + 1 := nI_clamp (by omega)
  have e2 : (nI (6 * j + 2)).toNatClampNeg = 6 * j + 2 := nI_clamp (by omega)
  obtain ⟨r, h1, h2, ⟨o1, m1⟩, ⟨o2, m2⟩, m3⟩ := hI h hIh (scX g (6 * j + 1)) (scX g (6 * j + 2))
  obtain ⟨fs1, g1⟩ := oK_spec o1
  obtain ⟨fs2, g2⟩ := oK_spec o2
  refine pw_aload_n dL_law_796 rfl ?_
  refine pw_s_n dL_law_797 rfl ?_
  refine pw_iload dL_law_798 rfl ?_
  refine pw_iconst (v := 1) dL_law_800 (by decide) ?_
  refine pw_iadd dL_law_801 ?_
  rw [add6 j 1 1 rfl]
  refine pw_sld (vp_in_nI (by omega) (by omega)) dL_law_802 ?_
  rw [e1]
  refine pw_s_n dL_law_803 rfl ?_
  refine pw_iload dL_law_804 rfl ?_
  refine pw_iconst (v := 2) dL_law_806 (by decide) ?_
  refine pw_iadd dL_law_807 ?_
  rw [add6 j 2 2 rfl]
  refine pw_sld (vp_in_nI (by omega) (by omega)) dL_law_808 ?_
  rw [e2]
  refine pw_callV (kc2 := 2 * N) (ks2 := 20 * N) (as := [.int (scX g (6 * j + 1)), .int (scX g (6 * j + 2))]) (rest := []) (t_X6_pin m1) gL_law_X6_pin rfl hd9_X6_pin rfl g1 rfl ⟨by decide, by decide⟩ ⟨rfl, rfl⟩ (Nat.le_of_ble_eq_true rfl) dL_law_809 rfl (fun r9 h9 hq => ?_)
  obtain ⟨rfl, rfl⟩ := hq
  refine pw_aload_n (st := [.int r]) dL_law_812 rfl ?_
  refine pw_s_n dL_law_813 rfl ?_
  refine pw_iload dL_law_814 rfl ?_
  refine pw_iconst (v := 1) dL_law_816 (by decide) ?_
  refine pw_iadd dL_law_817 ?_
  rw [add6 j 1 1 rfl]
  refine pw_sld (vp_in_nI (by omega) (by omega)) dL_law_818 ?_
  rw [e1]
  refine pw_s_n dL_law_819 rfl ?_
  refine pw_iload dL_law_820 rfl ?_
  refine pw_iconst (v := 2) dL_law_822 (by decide) ?_
  refine pw_iadd dL_law_823 ?_
  rw [add6 j 2 2 rfl]
  refine pw_sld (vp_in_nI (by omega) (by omega)) dL_law_824 ?_
  rw [e2]
  refine pw_callV (kc2 := 2 * N) (ks2 := 20 * N) (as := [.int (scX g (6 * j + 1)), .int (scX g (6 * j + 2))]) (rest := [.int r]) (t_X7_pin m2) gL_law_X7_pin rfl hd9_X7_pin rfl g2 rfl ⟨by decide, by decide⟩ ⟨(Nat.zero_add _).symm, (Nat.zero_add _).symm⟩ (Nat.le_of_ble_eq_true rfl) dL_law_825 rfl (fun r9 h9 hq => ?_)
  obtain ⟨rfl, rfl⟩ := hq
  refine pw_icmp_eq (x := r) (y := r) (st := []) (tgt := 933) dL_law_828 (by decide) (fun _ => ?_) (fun q => absurd rfl q)
  exact tail _ m3
set_option maxHeartbeats 4000000 in
set_option maxRecDepth 100000 in
theorem law_drawn {g : GT} {l : Launch} {I : Hp → Prop} {N j : Nat} {h : Hp} (hj : 6 * j + 6 ≤ scL g) (hL : scL g ≤ 3072) (hIh : I h) (tail : ∀ h, I h → PW g l m_L_law 46 (2 * N) (20 * N) 933 [some (.float 9), some (.ref 0), some (.ref 64), some (.ref 80), some (.int (nI (6 * j))), none, none] [] h (fun r9 _ => r9 = some (.int 1))) (hI : S_drawn I) : PW g l m_L_law 46 (2 + 2 * N) (20 + 20 * N) 833 [some (.float 9), some (.ref 0), some (.ref 64), some (.ref 80), some (.int (nI (6 * j))), none, none] [] h (fun r9 _ => r9 = some (.int 1)) := by
  have e1 : (nI (6 * j + 1)).toNatClampNeg = 6 * j + 1 := nI_clamp (by omega)
  have e2 : (nI (6 * j + 2)).toNatClampNeg = 6 * j + 2 := nI_clamp (by omega)
  obtain ⟨r, h1, h2, ⟨o1, m1⟩, ⟨o2, m2⟩, m3⟩ := hI h hIh (scX g (6 * j + 1)) (scX g (6 * j + 2))
  obtain ⟨fs1, g1⟩ := oK_spec o1
  obtain ⟨fs2, g2⟩ := oK_spec o2
  refine pw_aload_n dL_law_833 rfl ?_
  refine pw_s_n dL_law_834 rfl ?_
  refine pw_iload dL_law_835 rfl ?_
  refine pw_iconst (v := 1) dL_law_837 (by decide) ?_
  refine pw_iadd dL_law_838 ?_
  rw [add6 j 1 1 rfl]
  refine pw_sld (vp_in_nI (by omega) (by omega)) dL_law_839 ?_
  rw [e1]
  refine pw_s_n dL_law_840 rfl ?_
  refine pw_iload dL_law_841 rfl ?_
  refine pw_iconst (v := 2) dL_law_843 (by decide) ?_
  refine pw_iadd dL_law_844 ?_
  rw [add6 j 2 2 rfl]
  refine pw_sld (vp_in_nI (by omega) (by omega)) dL_law_845 ?_
  rw [e2]
  refine pw_callV (kc2 := 2 * N) (ks2 := 20 * N) (as := [.int (scX g (6 * j + 1)), .int (scX g (6 * j + 2))]) (rest := []) (t_X6_drawn m1) gL_law_X6_drawn rfl hd9_X6_drawn rfl g1 rfl ⟨by decide, by decide⟩ ⟨rfl, rfl⟩ (Nat.le_of_ble_eq_true rfl) dL_law_846 rfl (fun r9 h9 hq => ?_)
  obtain ⟨rfl, rfl⟩ := hq
  refine pw_aload_n (st := [.int r]) dL_law_849 rfl ?_
  refine pw_s_n dL_law_850 rfl ?_
  refine pw_iload dL_law_851 rfl ?_
  refine pw_iconst (v := 1) dL_law_853 (by decide) ?_
  refine pw_iadd dL_law_854 ?_
  rw [add6 j 1 1 rfl]
  refine pw_sld (vp_in_nI (by omega) (by omega)) dL_law_855 ?_
  rw [e1]
  refine pw_s_n dL_law_856 rfl ?_
  refine pw_iload dL_law_857 rfl ?_
  refine pw_iconst (v := 2) dL_law_859 (by decide) ?_
  refine pw_iadd dL_law_860 ?_
  rw [add6 j 2 2 rfl]
  refine pw_sld (vp_in_nI (by omega) (by omega)) dL_law_861 ?_
  rw [e2]
  refine pw_callV (kc2 := 2 * N) (ks2 := 20 * N) (as := [.int (scX g (6 * j + 1)), .int (scX g (6 * j + 2))]) (rest := [.int r]) (t_X7_drawn m2) gL_law_X7_drawn rfl hd9_X7_drawn rfl g2 rfl ⟨by decide, by decide⟩ ⟨(Nat.zero_add _).symm, (Nat.zero_add _).symm⟩ (Nat.le_of_ble_eq_true rfl) dL_law_862 rfl (fun r9 h9 hq => ?_)
  obtain ⟨rfl, rfl⟩ := hq
  refine pw_icmp_eq (x := r) (y := r) (st := []) (tgt := 933) dL_law_865 (by decide) (fun _ => ?_) (fun q => absurd rfl q)
  exact tail _ m3
set_option maxHeartbeats 4000000 in
set_option maxRecDepth 100000 in
theorem law_undo {g : GT} {l : Launch} {I : Hp → Prop} {N j : Nat} {h : Hp} (hj : 6 * j + 6 ≤ scL g) (hL : scL g ≤ 3072) (hIh : I h) (tail : ∀ h, I h → PW g l m_L_law 46 (2 * N) (20 * N) 933 [some (.float 9), some (.ref 0), some (.ref 64), some (.ref 80), some (.int (nI (6 * j))), none, none] [] h (fun r9 _ => r9 = some (.int 1))) (hI : S_undo I) : PW g l m_L_law 46 (2 + 2 * N) (20 + 20 * N) 870 [some (.float 9), some (.ref 0), some (.ref 64), some (.ref 80), some (.int (nI (6 * j))), none, none] [] h (fun r9 _ => r9 = some (.int 1)) := by
  obtain ⟨r, h1, h2, ⟨o1, m1⟩, ⟨o2, m2⟩, m3⟩ := hI h hIh
  obtain ⟨fs1, g1⟩ := oK_spec o1
  obtain ⟨fs2, g2⟩ := oK_spec o2
  refine pw_aload_n dL_law_870 rfl ?_
  refine pw_callV (kc2 := 2 + 2 * N) (ks2 := 20 + 20 * N) (as := []) (rest := []) (t_X6_undo m1) gL_law_X6_undo rfl hd9_X6_undo rfl g1 rfl ⟨by decide, by decide⟩ ⟨(Nat.zero_add _).symm, (Nat.zero_add _).symm⟩ (Nat.le_of_ble_eq_true rfl) dL_law_871 rfl (fun r9 h9 hq => ?_)
  obtain ⟨rfl, rfl⟩ := hq
  refine pw_aload_n (st := [.int r]) dL_law_874 rfl ?_
  refine pw_callV (kc2 := 2 + 2 * N) (ks2 := 20 + 20 * N) (as := []) (rest := [.int r]) (t_X7_undo m2) gL_law_X7_undo rfl hd9_X7_undo rfl g2 rfl ⟨by decide, by decide⟩ ⟨(Nat.zero_add _).symm, (Nat.zero_add _).symm⟩ (Nat.le_of_ble_eq_true rfl) dL_law_875 rfl (fun r9 h9 hq => ?_)
  obtain ⟨rfl, rfl⟩ := hq
  refine pw_icmp_eq (x := r) (y := r) (st := []) (tgt := 933) dL_law_878 (by decide) (fun _ => ?_) (fun q => absurd rfl q)
  refine pw_more (x := 2) (y := 20) ?_
  exact tail _ m3
set_option maxHeartbeats 4000000 in
set_option maxRecDepth 100000 in
theorem law_image {g : GT} {l : Launch} {I : Hp → Prop} {N j : Nat} {h : Hp} (hj : 6 * j + 6 ≤ scL g) (hL : scL g ≤ 3072) (hIh : I h) (tail : ∀ h, I h → PW g l m_L_law 46 (2 * N) (20 * N) 933 [some (.float 9), some (.ref 0), some (.ref 64), some (.ref 80), some (.int (nI (6 * j))), none, none] [] h (fun r9 _ => r9 = some (.int 1))) (hI : S_image I) : PW g l m_L_law 46 (2 + 2 * N) (20 + 20 * N) 883 [some (.float 9), some (.ref 0), some (.ref 64), some (.ref 80), some (.int (nI (6 * j))), none, none] [] h (fun r9 _ => r9 = some (.int 1)) := by
  have e1 : (nI (6 * j + 1)).toNatClampNeg = 6 * j + 1 := nI_clamp (by omega)
  obtain ⟨r, h1, h2, ⟨o1, m1⟩, ⟨o2, m2⟩, m3⟩ := hI h hIh (scX g (6 * j + 1))
  obtain ⟨fs1, g1⟩ := oK_spec o1
  obtain ⟨fs2, g2⟩ := oK_spec o2
  refine pw_aload_n dL_law_883 rfl ?_
  refine pw_s_n dL_law_884 rfl ?_
  refine pw_iload dL_law_885 rfl ?_
  refine pw_iconst (v := 1) dL_law_887 (by decide) ?_
  refine pw_iadd dL_law_888 ?_
  rw [add6 j 1 1 rfl]
  refine pw_sld (vp_in_nI (by omega) (by omega)) dL_law_889 ?_
  rw [e1]
  refine pw_callV (kc2 := 2 * N) (ks2 := 20 * N) (as := [.int (scX g (6 * j + 1))]) (rest := []) (t_X6_image m1) gL_law_X6_image rfl hd9_X6_image rfl g1 rfl ⟨by decide, by decide⟩ ⟨rfl, rfl⟩ (Nat.le_of_ble_eq_true rfl) dL_law_890 rfl (fun r9 h9 hq => ?_)
  obtain ⟨rfl, rfl⟩ := hq
  refine pw_aload_n (st := [.int r]) dL_law_893 rfl ?_
  refine pw_s_n dL_law_894 rfl ?_
  refine pw_iload dL_law_895 rfl ?_
  refine pw_iconst (v := 1) dL_law_897 (by decide) ?_
  refine pw_iadd dL_law_898 ?_
  rw [add6 j 1 1 rfl]
  refine pw_sld (vp_in_nI (by omega) (by omega)) dL_law_899 ?_
  rw [e1]
  refine pw_callV (kc2 := 2 * N) (ks2 := 20 * N) (as := [.int (scX g (6 * j + 1))]) (rest := [.int r]) (t_X7_image m2) gL_law_X7_image rfl hd9_X7_image rfl g2 rfl ⟨by decide, by decide⟩ ⟨(Nat.zero_add _).symm, (Nat.zero_add _).symm⟩ (Nat.le_of_ble_eq_true rfl) dL_law_900 rfl (fun r9 h9 hq => ?_)
  obtain ⟨rfl, rfl⟩ := hq
  refine pw_icmp_eq (x := r) (y := r) (st := []) (tgt := 933) dL_law_903 (by decide) (fun _ => ?_) (fun q => absurd rfl q)
  exact tail _ m3
set_option maxHeartbeats 4000000 in
set_option maxRecDepth 100000 in
theorem law_restore {g : GT} {l : Launch} {I : Hp → Prop} {N j : Nat} {h : Hp} (hj : 6 * j + 6 ≤ scL g) (hL : scL g ≤ 3072) (hIh : I h) (tail : ∀ h, I h → PW g l m_L_law 46 (2 * N) (20 * N) 933 [some (.float 9), some (.ref 0), some (.ref 64), some (.ref 80), some (.int (nI (6 * j))), none, none] [] h (fun r9 _ => r9 = some (.int 1))) (hI : S_restore I) : PW g l m_L_law 46 (2 + 2 * N) (20 + 20 * N) 908 [some (.float 9), some (.ref 0), some (.ref 64), some (.ref 80), some (.int (nI (6 * j))), none, none] [] h (fun r9 _ => r9 = some (.int 1)) := by
  have e1 : (nI (6 * j + 1)).toNatClampNeg = 6 * j + 1 := nI_clamp (by omega)
  obtain ⟨r, h1, h2, ⟨o1, m1⟩, ⟨o2, m2⟩, m3⟩ := hI h hIh (scX g (6 * j + 1))
  obtain ⟨fs1, g1⟩ := oK_spec o1
  obtain ⟨fs2, g2⟩ := oK_spec o2
  refine pw_aload_n dL_law_908 rfl ?_
  refine pw_s_n dL_law_909 rfl ?_
  refine pw_iload dL_law_910 rfl ?_
  refine pw_iconst (v := 1) dL_law_912 (by decide) ?_
  refine pw_iadd dL_law_913 ?_
  rw [add6 j 1 1 rfl]
  refine pw_sld (vp_in_nI (by omega) (by omega)) dL_law_914 ?_
  rw [e1]
  refine pw_callV (kc2 := 2 + 2 * N) (ks2 := 20 + 20 * N) (as := [.int (scX g (6 * j + 1))]) (rest := []) (t_X6_restore m1) gL_law_X6_restore rfl hd9_X6_restore rfl g1 rfl ⟨by decide, by decide⟩ ⟨(Nat.zero_add _).symm, (Nat.zero_add _).symm⟩ (Nat.le_of_ble_eq_true rfl) dL_law_915 rfl (fun r9 h9 hq => ?_)
  obtain ⟨rfl, rfl⟩ := hq
  refine pw_aload_n (st := [.int r]) dL_law_918 rfl ?_
  refine pw_s_n dL_law_919 rfl ?_
  refine pw_iload dL_law_920 rfl ?_
  refine pw_iconst (v := 1) dL_law_922 (by decide) ?_
  refine pw_iadd dL_law_923 ?_
  rw [add6 j 1 1 rfl]
  refine pw_sld (vp_in_nI (by omega) (by omega)) dL_law_924 ?_
  rw [e1]
  refine pw_callV (kc2 := 2 + 2 * N) (ks2 := 20 + 20 * N) (as := [.int (scX g (6 * j + 1))]) (rest := [.int r]) (t_X7_restore m2) gL_law_X7_restore rfl hd9_X7_restore rfl g2 rfl ⟨by decide, by decide⟩ ⟨(Nat.zero_add _).symm, (Nat.zero_add _).symm⟩ (Nat.le_of_ble_eq_true rfl) dL_law_925 rfl (fun r9 h9 hq => ?_)
  obtain ⟨rfl, rfl⟩ := hq
  refine pw_icmp_eq (x := r) (y := r) (st := []) (tgt := 933) dL_law_928 (by decide) (fun _ => ?_) (fun q => absurd rfl q)
  refine pw_more (x := 2) (y := 20) ?_
  exact tail _ m3
set_option maxHeartbeats 4000000 in
set_option maxRecDepth 100000 in
theorem law_loop {g : GT} {l : Launch} {I : Hp → Prop} (hfl : l.stackTraces = false) (hI : LawS I) (hL : scL g ≤ 3072) : ∀ (N j : Nat) (h : Hp), I h → scL g ≤ 6 * (j + N) + 5 → 6 * j ≤ 3072 → PW g l m_L_law 46 (2 * N) (20 * N) 23 [some (.float 9), some (.ref 0), some (.ref 64), some (.ref 80), some (.int (nI (6 * j))), none, none] [] h (fun r9 _ => r9 = some (.int 1)) := by
  intro N
  induction N with
  | zero =>
    intro j h hIh hN hj
    refine pw_iload dL_law_23 rfl ?_
    refine pw_s_n dL_law_25 rfl ?_
    refine pw_slen dL_law_26 ?_
    refine pw_bipush (v := 6) dL_law_27 (by decide) ?_
    refine pw_isub dL_law_29 ?_
    refine pw_icmp_gt (tgt := 939) dL_law_30 (by decide) (fun _ => ?_) (fun q => absurd ?_ q)
    · refine pw_iconst (v := 1) dL_law_939 (by decide) ?_
      exact pw_iret rfl rfl dL_law_940 rfl
    · rw [show (6 : Int32) = nI 6 from rfl]
      refine Int32.lt_iff_toInt_lt.mpr ?_
      rw [pk_sub_toInt (by omega) (by omega), nI_toInt (by omega)]
      omega
  | succ N ih =>
    intro j h hIh hN hj
    refine pw_iload dL_law_23 rfl ?_
    refine pw_s_n dL_law_25 rfl ?_
    refine pw_slen dL_law_26 ?_
    refine pw_bipush (v := 6) dL_law_27 (by decide) ?_
    refine pw_isub dL_law_29 ?_
    refine pw_icmp_gt (tgt := 939) dL_law_30 (by decide) (fun _ => ?_) (fun q => ?_)
    · refine pw_iconst (v := 1) dL_law_939 (by decide) ?_
      exact pw_iret rfl rfl dL_law_940 rfl
    · have hj6 : 6 * j + 6 ≤ scL g := by
        rcases Nat.lt_or_ge (scL g) (6 * j + 6) with hlt | hge
        · refine absurd ?_ q
          rw [show (6 : Int32) = nI 6 from rfl]
          refine Int32.lt_iff_toInt_lt.mpr ?_
          rw [pk_sub_toInt (by omega) (by omega), nI_toInt (by omega)]
          omega
        · exact hge
      have tail : ∀ h, I h → PW g l m_L_law 46 (2 * N) (20 * N) 933 [some (.float 9), some (.ref 0), some (.ref 64), some (.ref 80), some (.int (nI (6 * j))), none, none] [] h (fun r9 _ => r9 = some (.int 1)) := by
        intro h hIh
        refine pw_iinc (v := nI (6 * (j + 1))) dL_law_933 rfl (by show nI (6 * j) + nI 6 = _; rw [nI_add]; exact congrArg nI (by omega)) (by decide) rfl ?_
        dsimp only [lset, lset2, clr]
        refine pw_goto (tgt := 23) dL_law_936 (by decide) ?_
        exact ih (j + 1) h hIh (by omega) (by omega)
      rw [show 2 * (N + 1) = 2 + 2 * N by omega, show 20 * (N + 1) = 20 + 20 * N by omega]
      have e0 : (nI (6 * j)).toNatClampNeg = 6 * j := nI_clamp (by omega)
      refine pw_s_n dL_law_33 rfl ?_
      refine pw_iload dL_law_34 rfl ?_
      refine pw_sld (vp_in_nI (by omega) (by omega)) dL_law_36 ?_
      refine pw_bipush (v := 31) dL_law_37 (by decide) ?_
      refine pw_iand dL_law_39 ?_
      obtain ⟨k, hk, ek⟩ := pk_andE (scX g (nI (6 * j)).toNatClampNeg) (m := 31) 5 (by decide)
      rw [ek]
      have hk : k < 32 := by omega
      rcases (show k = 0 ∨ k = 1 ∨ k = 2 ∨ k = 3 ∨ k = 4 ∨ k = 5 ∨ k = 6 ∨ k = 7 ∨ k = 8 ∨ k = 9 ∨ k = 10 ∨ k = 11 ∨ k = 12 ∨ k = 13 ∨ k = 14 ∨ k = 15 ∨ k = 16 ∨ k = 17 ∨ k = 18 ∨ k = 19 ∨ k = 20 ∨ k = 21 ∨ k = 22 ∨ k = 23 ∨ k = 24 ∨ k = 25 ∨ 26 ≤ k by omega) with rfl | rfl | rfl | rfl | rfl | rfl | rfl | rfl | rfl | rfl | rfl | rfl | rfl | rfl | rfl | rfl | rfl | rfl | rfl | rfl | rfl | rfl | rfl | rfl | rfl | rfl | hk2
      · exact pw_tableIn (off := 120) (tgt := 160) dL_law_40 (by decide) (by decide) (by rfl) (by decide) (law_feed hj6 hL hIh tail hI.1)
      · exact pw_tableIn (off := 193) (tgt := 233) dL_law_40 (by decide) (by decide) (by rfl) (by decide) (law_end hj6 hL hIh tail hI.2.1)
      · exact pw_tableIn (off := 218) (tgt := 258) dL_law_40 (by decide) (by decide) (by rfl) (by decide) (law_frame hj6 hL hIh tail hI.2.2.1)
      · exact pw_tableIn (off := 231) (tgt := 271) dL_law_40 (by decide) (by decide) (by rfl) (by decide) (law_fault hj6 hL hIh tail hI.2.2.2.1)
      · exact pw_tableIn (off := 244) (tgt := 284) dL_law_40 (by decide) (by decide) (by rfl) (by decide) (law_kind hj6 hL hIh tail hI.2.2.2.2.1)
      · exact pw_tableIn (off := 281) (tgt := 321) dL_law_40 (by decide) (by decide) (by rfl) (by decide) (law_now hj6 hL hIh tail hI.2.2.2.2.2.1)
      · exact pw_tableIn (off := 306) (tgt := 346) dL_law_40 (by decide) (by decide) (by rfl) (by decide) (law_pinned hj6 hL hIh tail hI.2.2.2.2.2.2.1)
      · exact pw_tableIn (off := 331) (tgt := 371) dL_law_40 (by decide) (by decide) (by rfl) (by decide) (law_ways hj6 hL hIh tail hI.2.2.2.2.2.2.2.1)
      · exact pw_tableIn (off := 344) (tgt := 384) dL_law_40 (by decide) (by decide) (by rfl) (by decide) (law_row hj6 hL hIh tail hfl hI.2.2.2.2.2.2.2.2.1)
      · exact pw_tableIn (off := 400) (tgt := 440) dL_law_40 (by decide) (by decide) (by rfl) (by decide) (law_at hj6 hL hIh tail hI.2.2.2.2.2.2.2.2.2.1)
      · exact pw_tableIn (off := 425) (tgt := 465) dL_law_40 (by decide) (by decide) (by rfl) (by decide) (law_first hj6 hL hIh tail hI.2.2.2.2.2.2.2.2.2.2.1)
      · exact pw_tableIn (off := 450) (tgt := 490) dL_law_40 (by decide) (by decide) (by rfl) (by decide) (law_rank hj6 hL hIh tail hI.2.2.2.2.2.2.2.2.2.2.2.1)
      · exact pw_tableIn (off := 463) (tgt := 503) dL_law_40 (by decide) (by decide) (by rfl) (by decide) (law_behind hj6 hL hIh tail hI.2.2.2.2.2.2.2.2.2.2.2.2.1)
      · exact pw_tableIn (off := 476) (tgt := 516) dL_law_40 (by decide) (by decide) (by rfl) (by decide) (law_standing hj6 hL hIh tail hI.2.2.2.2.2.2.2.2.2.2.2.2.2.1)
      · exact pw_tableIn (off := 513) (tgt := 553) dL_law_40 (by decide) (by decide) (by rfl) (by decide) (law_may hj6 hL hIh tail hI.2.2.2.2.2.2.2.2.2.2.2.2.2.2.1)
      · exact pw_tableIn (off := 538) (tgt := 578) dL_law_40 (by decide) (by decide) (by rfl) (by decide) (law_sure hj6 hL hIh tail hI.2.2.2.2.2.2.2.2.2.2.2.2.2.2.2.1)
      · exact pw_tableIn (off := 551) (tgt := 591) dL_law_40 (by decide) (by decide) (by rfl) (by decide) (law_extended hj6 hL hIh tail hI.2.2.2.2.2.2.2.2.2.2.2.2.2.2.2.2.1)
      · exact pw_tableIn (off := 588) (tgt := 628) dL_law_40 (by decide) (by decide) (by rfl) (by decide) (law_made hj6 hL hIh tail hI.2.2.2.2.2.2.2.2.2.2.2.2.2.2.2.2.2.1)
      · exact pw_tableIn (off := 613) (tgt := 653) dL_law_40 (by decide) (by decide) (by rfl) (by decide) (law_third hj6 hL hIh tail hI.2.2.2.2.2.2.2.2.2.2.2.2.2.2.2.2.2.2.1)
      · exact pw_tableIn (off := 650) (tgt := 690) dL_law_40 (by decide) (by decide) (by rfl) (by decide) (law_hole hj6 hL hIh tail hI.2.2.2.2.2.2.2.2.2.2.2.2.2.2.2.2.2.2.2.1)
      · exact pw_tableIn (off := 703) (tgt := 743) dL_law_40 (by decide) (by decide) (by rfl) (by decide) (law_pair hj6 hL hIh tail hI.2.2.2.2.2.2.2.2.2.2.2.2.2.2.2.2.2.2.2.2.1)
      · exact pw_tableIn (off := 756) (tgt := 796) dL_law_40 (by decide) (by decide) (by rfl) (by decide) (law_pin hj6 hL hIh tail hI.2.2.2.2.2.2.2.2.2.2.2.2.2.2.2.2.2.2.2.2.2.1)
      · exact pw_tableIn (off := 793) (tgt := 833) dL_law_40 (by decide) (by decide) (by rfl) (by decide) (law_drawn hj6 hL hIh tail hI.2.2.2.2.2.2.2.2.2.2.2.2.2.2.2.2.2.2.2.2.2.2.1)
      · exact pw_tableIn (off := 830) (tgt := 870) dL_law_40 (by decide) (by decide) (by rfl) (by decide) (law_undo hj6 hL hIh tail hI.2.2.2.2.2.2.2.2.2.2.2.2.2.2.2.2.2.2.2.2.2.2.2.1)
      · exact pw_tableIn (off := 843) (tgt := 883) dL_law_40 (by decide) (by decide) (by rfl) (by decide) (law_image hj6 hL hIh tail hI.2.2.2.2.2.2.2.2.2.2.2.2.2.2.2.2.2.2.2.2.2.2.2.2.1)
      · exact pw_tableIn (off := 868) (tgt := 908) dL_law_40 (by decide) (by decide) (by rfl) (by decide) (law_restore hj6 hL hIh tail hI.2.2.2.2.2.2.2.2.2.2.2.2.2.2.2.2.2.2.2.2.2.2.2.2.2)
      · refine pw_tableOut (tgt := 933) dL_law_40 (Or.inr ?_) (by decide) ?_
        · rw [nI_toInt (by omega)]; omega
        · refine pw_more (x := 2) (y := 20) ?_
          exact tail _ hIh
