/-! row(): the one method that throws; the law's own row(), which catches -/
def NSE : String := "java/util/NoSuchElementException"
theorem row_bad : ∀ w ∈ (vx_at0 RX6 154 "java/util/NoSuchElementException" ["java/lang/RuntimeException", "java/lang/Exception"]).filter (fun w => !goodWord w), w ∈ ([.castable "java/util/NoSuchElementException" "java/util/NoSuchElementException", .declares ⟨"java/lang/RuntimeException", "<init>", "()V"⟩, .declares ⟨"java/lang/Exception", "<init>", "()V"⟩, .declares ⟨"java/lang/Throwable", "<init>", "()V"⟩] : List Cond) := by decide +kernel
theorem row_ot : ∀ w ∈ Cond.classLink RX6 152 "java/util/NoSuchElementException" :: Cond.initialized "java/util/NoSuchElementException" :: vx_at0 RX6 154 "java/util/NoSuchElementException" ["java/lang/RuntimeException", "java/lang/Exception"], vx_ot w = true := by decide +kernel
theorem row_good : ∀ w ∈ (vx_at0 RX6 154 "java/util/NoSuchElementException" ["java/lang/RuntimeException", "java/lang/Exception"]).filter goodWord, w ∈ wsX6_row := fun w h => List.mem_cons_of_mem _ (List.mem_append_right _ h)
theorem cast_self {s : State} {args : Array Value} {E : String} {c : ClassId} (h : s.vm.findClass E = some c) : (Cond.castable E E).before args s = true := by
  simp [Cond.before, Cond.holds, Cond.value, h, va_asg]
theorem rel_grown {g : GT} {h : Hp} {H H1 : Heap} (hR : REL g h H) (hle : H.size ≤ H1.size) (o : ∀ q : Nat, q < H.size → H1[q]? = H[q]?) : ∃ n, h.1 ≤ n ∧ REL g (n, h.2) H1 := by
  refine ⟨H1.size - g.1, by rw [hR.1] at hle; omega, by rw [hR.1] at hle; show H1.size = g.1 + (H1.size - g.1); omega, fun k e hk => ?_⟩
  have h1 := hR.2 k e hk
  exact h1.kept (o _ h1.lt)
/-- what row() does: the fillings' object, the heap behind counted(), whether there is such a rank, the answer where there is -/
def RowQ (b : Int32) (r : Int32 × Hp) : Option Value → Hp → Prop := fun r9 h9 => ¬ b = 0 ∧ r9 = some (.int r.1) ∧ h9 = r.2
def RowX (g : GT) (b : Int32) (h1 : Hp) : String → State → State → Prop := fun E st t => (b = 0 ∧ E = "java/util/NoSuchElementException" ∧ ∃ n, h1.1 ≤ n ∧ REL g (n, h1.2) t.heap) ∧ va_F (fun q => g.1 ≤ q) st t
set_option maxHeartbeats 4000000 in
set_option maxRecDepth 100000 in
theorem t_X6_row {g : GT} {l : Launch} (hfl : l.stackTraces = false) {h : Hp} {a0 : Nat} {a1 b : Int32} {x1 : Nat × Hp} {r : Int32 × Hp} (h0 : oK h a0 6 = true) (hc : f_X6_counted h a0 = some x1) (h1 : oK x1.2 x1.1 1 = true) (hb : f_X1_hasRank x1.2 x1.1 a1 = some b) (hr9 : ¬ b = 0 → f_X6_row_21 a0 a1 x1.1 x1.2 = some r) :
    vx_Met l yX6_row wsX6_row { frames := 43, cells := 1, slots := 6, locals := 40 * 43 } (PcOf g [.ref a0, .int a1] h) (QcOf g (RowQ b r)) (RowX g b x1.2) 1 6 (fun q => g.1 ≤ q) := by
  obtain ⟨fs0, hf0⟩ := oK_spec h0
  obtain ⟨fs1, hf1⟩ := oK_spec h1
  refine vx_ofW (cc := cX6_row) (maxL := 3) (ret := some .int) (by decide) rfl ?_
  intro p e s m args below meth c s₁ B hml htab hv
  obtain ⟨rfl, hR, hK⟩ := hv
  have hown : s.vm.findClass yX6_row.cls = some m.cls := findClass_of_methodNamed B.named
  have hts := atoms_spec (ws := wsX6_row) B.pre
  have hC : CX g m_X6_row p s m ([Value.ref a0, .int a1].map (trV g)).toArray meth c := ⟨B.exec, B.bytes, hml, hown, hts, hK, B.returns, B.notSynchronized, (name_of_methodNamed B.named B.method).1⟩
  have hl := lv_entry ([Value.ref a0, .int a1].map (trV g)) (n := 3) (Nat.le_of_ble_eq_true rfl)
  rw [lg_entry_eq]
  generalize (lg_sl ([Value.ref a0, .int a1].map (trV g)) ++ List.replicate (3 - (lg_sl ([Value.ref a0, .int a1].map (trV g))).length) Slot.unset).toArray = ls at hl ⊢
  have hl : lv_has ls 3 [(0, .ref (g.1 + a0)), (1, .int a1)] := hl
  have hz : g.1 ≤ s.heap.size := by rw [hR.1]; exact Nat.le_add_right _ _
  have hS : va_S (fun q => g.1 ≤ q) s.heap s.heap [] := va_S.rf
  have hx := B.exec
  have hbb := B.bytes
  refine lv_aload_n hx hbb dX6_row_0 rfl (lv_at hl 0 rfl) ?_
  refine pw_run (va_runV (As := []) (rest := []) (b := g.1 + a0) ⟨hx, hbb, hml, hown, hts⟩ (t_X6_counted (g := g) (l := l) hc) (cwV 0 hts gX6_row_X6_counted rfl rfl rfl hd9_X6_counted ⟨by show 42 + 1 ≤ 43; decide, by show 8 + (1 + 11) + 40 * 42 ≤ 40 * 43; decide⟩) ⟨PcOf.blind, va_recv hK.1 (hR.one hf0) (q0 := 0) (ci := 6) rfl rfl, fun U hU hW => ⟨rfl, by rw [hU]; exact hR, KX.moved hW (fun a h1 h2 => by rw [hU]) hK⟩⟩ rfl rfl hl.1 rfl (Nat.le_of_ble_eq_true rfl) dX6_row_1 ⟨by decide, by decide⟩) hS fun r' h' H1 locs1 hq hR1 hS1 => ?_
  obtain ⟨rfl, rfl⟩ := hq
  refine lv_astore_n (x := g.1 + x1.1) (lv' := [(2, .ref (g.1 + x1.1)), (0, .ref (g.1 + a0)), (1, .int a1)]) hx hbb dX6_row_4 rfl hl (by decide) rfl (fun ls hl => ?_)
  refine lv_aload_n hx hbb dX6_row_5 rfl (lv_at hl 0 rfl) ?_
  refine lv_iload_n hx hbb dX6_row_6 rfl (lv_at hl 2 rfl) ?_
  refine pw_run (va_runV (As := [.int a1]) (rest := []) (b := g.1 + x1.1) ⟨hx, hbb, hml, hown, hts⟩ (t_X1_hasRank (g := g) (l := l) hb) (cwV 1 hts gX6_row_X1_hasRank rfl rfl rfl hd9_X1_hasRank ⟨by show 1 + 1 ≤ 43; decide, by show 8 + (2 + 11) + 40 * 1 ≤ 40 * 43; decide⟩) ⟨PcOf.blind, va_recv hK.1 (hR1.one hf1) (q0 := 0) (ci := 1) rfl rfl, fun U hU hW => ⟨rfl, by rw [hU]; exact hR1, KX.moved hW (fun a h1 h2 => by rw [hU]; exact hS1.2.1 a h1 h2) hK⟩⟩ rfl rfl hl.1 rfl (Nat.le_of_ble_eq_true rfl) dX6_row_7 ⟨by decide, by decide⟩) hS1 fun r' h' H2 locs2 hq hR2 hS2 => ?_
  obtain ⟨rfl, rfl⟩ := hq
  refine lv_if_ne (x := b) (tgt := 21) hx hbb dX6_row_10 (by decide) (fun hb0 => ?_) (fun hb0 => ?_)
  · refine vx_ret ?_
    have hlR : lvR g ls 3 [some (.ref a0), some (.int a1), some (.ref x1.1)] := ⟨hl.1, hl.2.1, fun i v hi => by
      match i, hi with
      | 0, hi => cases hi; exact lv_at hl 1 rfl
      | 1, hi => cases hi; exact lv_at hl 2 rfl
      | 2, hi => cases hi; exact lv_at hl 0 rfl
      | i + 3, hi => simp at hi⟩
    have := w_X6_row_21 (g := g) (l := l) a0 a1 x1.1 _ (hr9 hb0) p e (headSpec wsX6_row { frames := 43, cells := 1, slots := 6, locals := 40 * 43 }).room s m _ below meth c H2 locs2 0 0 ls hC ⟨by show 4 ≤ 43; decide, by show 40 * 4 ≤ 40 * 43; decide, by show 0 + 0 ≤ 1; decide, by show 0 + 0 ≤ 6; decide⟩ hlR hR2 hS2 hz
    intro T hT X
    obtain ⟨t, a1', o, b1, b2, ⟨⟨r9, h9, e1, ⟨e2, e3⟩, e4⟩, e5⟩, L, hFE, hL⟩ := this T hT X
    exact ⟨t, a1', o, b1, b2, ⟨⟨r9, h9, e1, ⟨hb0, e2, e3⟩, e4⟩, e5⟩, L, ⟨hFE.1, hFE.2.1, hFE.2.2.mono (by decide) (by decide)⟩, hL⟩
  · refine vx_throw0 (names := ["java/lang/RuntimeException", "java/lang/Exception"]) (A := fun q => g.1 ≤ q) hx hbb hfl hown (by decide +kernel) (by decide +kernel) (hts _ (by decide +kernel)) (hts _ (by decide +kernel)) (vx_hat (fun w hw => hts w (row_good w hw)) row_bad (vx_c (by obtain ⟨c9, k9, hc9, -⟩ := Cond.instantiable_spec (hts (.instantiable "java/util/NoSuchElementException" 6) (row_good _ (by decide +kernel))); exact cast_self hc9) (vx_c (va_Nw.use rfl (hK.2.2.1 _ (by decide +kernel))) (vx_c (va_Nw.use rfl (hK.2.2.1 _ (by decide +kernel))) (vx_c (va_Nw.use rfl (hK.2.2.1 _ (by decide +kernel))) vx_n))))) row_ot hK.2.2.2.2.2.2.2.2.1 hK.2.2.2.2.2.2.2.2.2.1 hS2 (hl.1.trans hml.symm) dX6_row_13 dX6_row_16 dX6_row_17 dX6_row_20 (fun x hx => (htab x hx).elim) (by show 2 + 3 < 43; decide) (by show 0 + (13 * (2 + 1) + 42) ≤ 40 * 43; decide) (by show 0 + 0 + 0 + 1 ≤ 1; decide) (by show 0 + 0 + 0 + 6 ≤ 6; decide) B.notSynchronized (fun t hal hle ho => ?_) hS2.2.2 (by decide) (by decide)
    obtain ⟨n, hn, hRn⟩ := rel_grown hR2 hle ho
    exact ⟨⟨hb0, rfl, n, hn, hRn⟩, Nat.le_trans hS2.1 hle, fun q g1 g2 => (ho q (Nat.lt_of_lt_of_le g1 hS2.1)).trans (hS2.2.1 q g1 g2)⟩
theorem Met.ofWH {l : Launch} {y : MethodName} {ws ws' : List Cond} {rm : Room} {Pc : Array Value → State → Prop} {Qc : Array Value → State → Outcome → State → Prop} {mc ms : Nat} {free : Addr → Prop} {cc : ByteArray} {maxL : Nat} {ret : Option FieldType} {hh : List (Nat × Nat × Nat × Nat)}
    (hy : plainName y.cls = true) (hw : ws = Cond.codeWith y cc maxL ret hh :: ws')
    (body : ∀ p e s m args below meth c s₁, BodyLoose p l y (headSpec ws rm) cc maxL ret e s m args below meth c s₁ → c.maxLocals = maxL → Pc args s →
      W p l e (headSpec ws rm).room s m args below meth c s.heap [] 0 0 (MQ below Qc args s mc ms free) (entryFrame m args maxL)) : Met l y ws rm Pc Qc mc ms free := by
  refine MetFree.of_bodyS (code := cc) (maxLocals := maxL) (ret := ret) hy ?_ ?_
  · intro args s m h hn
    obtain ⟨m9, meth, c, hn9, h1, h2, h3, h4, -, h5, h6, -⟩ := Cond.codeWith_spec (atoms_spec (ws := ws) h _ (by rw [hw]; exact List.mem_cons_self))
    cases hn.symm.trans hn9
    exact ⟨meth, c, h1, h2, h3, h4, h5, h6⟩
  · intro p e s m args below meth c s₁ B hml hP _
    have hh0 : s₁.heap = s.heap := by rw [B.state]; rfl
    obtain ⟨t, a1, o, b1, b2, b3⟩ := body p e s m args below meth c s₁ B hml hP s₁ hh0 (Stand.of_body B)
    exact ⟨t, o, a1, b1, b2, ⟨b3.1, b3.2⟩⟩
abbrev m_L_row : MD := (cL_row, RL, "row", wsL_row, 4, some .int)
theorem hd9_L_row : yL_row.cls ≠ "java/lang/invoke/MethodHandle" ∧ yL_row.cls ≠ "java/lang/invoke/VarHandle" ∧ (parseMethodDescriptor yL_row.desc).map (fun d => d.parameters.length) = some 3 := by decide +kernel
def LRowQ (b : Int32) (h1 h2 : Hp) : Option Value → Hp → Prop := fun r9 h9 => (¬ b = 0 ∧ r9 = some (.int 0) ∧ h9 = h2) ∨ (b = 0 ∧ r9 = some (.int 1) ∧ ∃ n, h1.1 ≤ n ∧ h9 = (n, h1.2))
set_option maxHeartbeats 4000000 in
set_option maxRecDepth 100000 in
theorem t_L_row {g : GT} {l : Launch} (hfl : l.stackTraces = false) {h h2 : Hp} {a0 ao : Nat} {a1 b : Int32} {x1 : Nat × Hp} {r : Int32 × Hp} (h0 : oK h a0 6 = true) (hc : f_X6_counted h a0 = some x1) (h1 : oK x1.2 x1.1 1 = true) (hb : f_X1_hasRank x1.2 x1.1 a1 = some b) (hr9 : ¬ b = 0 → f_X6_row_21 a0 a1 x1.1 x1.2 = some r) (hs : ¬ b = 0 → sL r.2 ao 0 r.1.toInt64 = some h2) :
    PM g l 44 1 6 yL_row wsL_row [.ref a0, .int a1, .ref ao] h (LRowQ b x1.2 h2) := by
  obtain ⟨fs0, hf0⟩ := oK_spec h0
  refine Met.ofWH (cc := cL_row) (maxL := 4) (ret := some .int) (hh := [(0, 9, 12, 13)]) (by decide) rfl ?_
  intro p e s m args below meth c s₁ B hml hv
  obtain ⟨rfl, hR, hK⟩ := hv
  have hown : s.vm.findClass yL_row.cls = some m.cls := findClass_of_methodNamed B.named
  have hts := atoms_spec (ws := wsL_row) B.pre
  have htab := vx_table (x := yL_row) B (hts _ List.mem_cons_self)
  have hC : CX g m_L_row p s m ([Value.ref a0, .int a1, .ref ao].map (trV g)).toArray meth c := ⟨B.exec, B.bytes, hml, hown, hts, hK, B.returns, B.notSynchronized, (name_of_methodNamed B.named B.method).1⟩
  have hl := lv_entry ([Value.ref a0, .int a1, .ref ao].map (trV g)) (n := 4) (Nat.le_of_ble_eq_true rfl)
  rw [lg_entry_eq]
  generalize (lg_sl ([Value.ref a0, .int a1, .ref ao].map (trV g)) ++ List.replicate (4 - (lg_sl ([Value.ref a0, .int a1, .ref ao].map (trV g))).length) Slot.unset).toArray = ls at hl ⊢
  have hl : lv_has ls 4 [(0, .ref (g.1 + a0)), (1, .int a1), (2, .ref (g.1 + ao))] := hl
  have hz : g.1 ≤ s.heap.size := by rw [hR.1]; exact Nat.le_add_right _ _
  have hS : va_S (fun q => g.1 ≤ q) s.heap s.heap [] := va_S.rf
  have hx := B.exec
  have hbb := B.bytes
  refine lv_aload_n hx hbb dL_row_0 rfl (lv_at hl 2 rfl) ?_
  refine lv_iconst (v := 0) hx hbb dL_row_1 (by decide) ?_
  refine lv_aload_n hx hbb dL_row_2 rfl (lv_at hl 0 rfl) ?_
  refine lv_iload_n hx hbb dL_row_3 rfl (lv_at hl 1 rfl) ?_
  have hrun := vx_runV (H := s.heap) (locs := []) (cells := 0) (slots := 0) (R := (headSpec wsL_row { frames := 44, cells := 1, slots := 6, locals := 40 * 44 }).room) (e := e) (below := below) (meth := meth) (g := F0 m 4 ls (.int a1 :: .ref (g.1 + a0) :: .int 0 :: .ref (g.1 + ao) :: [])) (As := [.int a1]) (rest := [.int 0, .ref (g.1 + ao)]) (b := g.1 + a0) ⟨hx, hbb, hml, hown, hts⟩ (t_X6_row (g := g) (l := l) hfl h0 hc h1 hb hr9) (cwV 1 hts gL_row_X6_row rfl rfl rfl hd9_X6_row ⟨by show 43 + 1 ≤ 44; decide, by show 8 + (3 + 11) + 40 * 43 ≤ 40 * 44; decide⟩) ⟨PcOf.blind, va_recv hK.1 (hR.one hf0) (q0 := 0) (ci := 6) rfl rfl, fun U hU hW => ⟨rfl, by rw [hU]; exact hR, KX.moved hW (fun a h1 h2 => by rw [hU]) hK⟩⟩ rfl rfl hl.1 rfl (Nat.le_of_ble_eq_true rfl) dL_row_4 ⟨by show 0 + 1 ≤ 1; decide, by show 0 + 6 ≤ 6; decide⟩
  intro T hT X
  rcases hrun T hT X with ⟨v, st₀, t, T', L, hh0, X', hL, e1, e2, ⟨⟨r9, h9, hv, ⟨hb0, hr1, hr2⟩, hR9⟩, hF⟩, st⟩ | ⟨q, st₀, t, T', L, E, ce, hh0, X', hL, e1, e2, ⟨⟨hb0, hE, n, hn, hRn⟩, hF⟩, hce, hcv, hcl, st⟩
  · have hv' : v = r9.map (trV g) := by cases hv; rfl
    subst hv'
    subst hr1
    subst hr2
    obtain ⟨k1, k2, k3⟩ := vx_keep hh0 e1 hS (fun q _ h => h) (fun q h => h) hL hF
    have hlR : lvR g ls 4 [some (.ref a0), some (.int a1), some (.ref ao), none] := ⟨hl.1, hl.2.1, fun i v hi => by
      match i, hi with
      | 0, hi => cases hi; exact lv_at hl 0 rfl
      | 1, hi => cases hi; exact lv_at hl 1 rfl
      | 2, hi => cases hi; exact lv_at hl 2 rfl
      | 3, hi => cases hi
      | i + 4, hi => simp at hi⟩
    have k : PW g l m_L_row 44 0 0 7 [some (.ref a0), some (.int a1), some (.ref ao), none] [.int r.1, .int 0, .ref ao] r.2 (LRowQ b x1.2 h2) := by
      refine pw_i2l dL_row_7 ?_
      refine pw_last (hs hb0) dL_row_8 ?_
      refine pw_goto (tgt := 15) dL_row_9 (by decide) ?_
      refine pw_iconst (v := 0) dL_row_15 (by decide) ?_
      exact pw_iret rfl rfl dL_row_16 (Or.inl ⟨hb0, rfl, rfl⟩)
    obtain ⟨t2, q1, q2⟩ := k p e (headSpec wsL_row { frames := 44, cells := 1, slots := 6, locals := 40 * 44 }).room s m _ below meth c T'.heap ([] ++ L) (0 + 1) (0 + 6) ls hC ⟨Nat.le_refl _, Nat.le_refl _, by show 0 + 1 + 0 ≤ 1; decide, by show 0 + 6 + 0 ≤ 6; decide⟩ hlR (by rw [e1]; exact hR9) k3 hz T' rfl X'
    exact ⟨t2, st t2 q1, q2⟩
  · subst hE
    obtain ⟨k1, k2, k3⟩ := vx_keep hh0 e1 hS (fun q _ h => h) (fun q h => h) hL hF
    have hcatch : vx_W p l e (headSpec wsL_row { frames := 44, cells := 1, slots := 6, locals := 40 * 44 }).room s m ([Value.ref a0, .int a1, .ref ao].map (trV g)).toArray below meth c T'.heap ([] ++ L) (0 + 1) (0 + 6) (MQ below (QcOf g (LRowQ b x1.2 h2)) ([Value.ref a0, .int a1, .ref ao].map (trV g)).toArray s 1 6 (fun q => g.1 ≤ q)) (F0 m 4 ls [.int 0, .ref (g.1 + ao)]) q := by
      refine vx_catch (name := "java/util/NoSuchElementException") hown [] ⟨0, 9, 12, 13⟩ [] (by rw [htab]; rfl) (fun z hz => by cases hz) (by decide) (by decide) (hts _ (by decide +kernel)) (cast_self hcl) (by rw [e1]; exact hce) hcv hcl ?_
      refine lv_astore_n (x := q) (lv' := [(3, .ref q), (0, .ref (g.1 + a0)), (1, .int a1), (2, .ref (g.1 + ao))]) hx hbb dL_row_12 rfl hl (by decide) rfl (fun ls hl => ?_)
      refine lv_iconst (v := 1) hx hbb dL_row_13 (by decide) ?_
      exact W.zret hx hbb B.returns rfl (fun t ht hW => Q_of (r := some (.int 1)) (h := (n, x1.2.2)) (Or.inr ⟨hb0, rfl, n, hn, rfl⟩) (by rw [e1]; exact hRn) k3 ht) k3.2.2 dL_row_14 B.notSynchronized
    obtain ⟨t2, q1, q2⟩ := hcatch T' rfl X'
    exact ⟨t2, st.trans q1, q2⟩
