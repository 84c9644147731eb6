/-! small rows for the printed walks -/
theorem lle_0 {b : List (Option Value)} : lle [] b := by cases b <;> simp [lle]
theorem lle_n {a b : List (Option Value)} {x : Option Value} (h : lle a b) : lle (none :: a) (x :: b) := by simpa [lle] using h
theorem lle_s {a b : List (Option Value)} {v w : Value} (e : v = w) (h : lle a b) : lle (some v :: a) (some w :: b) := by simpa [lle] using ⟨e, h⟩
theorem iteN {α : Type} {c : Prop} {i9 : Decidable c} {A : Option α} {r : α} (hf : @ite _ c i9 A none = some r) : c ∧ A = some r := by
  by_cases q : c
  · exact ⟨q, (if_pos q).symm.trans hf⟩
  · rw [if_neg q] at hf; cases hf
theorem ite2 {α : Type} {c : Prop} {i9 : Decidable c} {A B : Option α} {r : α} (hf : @ite _ c i9 A B = some r) : (c ∧ A = some r) ∨ (¬ c ∧ B = some r) := by
  by_cases q : c
  · exact Or.inl ⟨q, (if_pos q).symm.trans hf⟩
  · exact Or.inr ⟨q, (if_neg q).symm.trans hf⟩
theorem narZ {x : Int32} (h : x = 0 ∨ x = 1) : narrow .boolean (.int x) = .int x := by rcases h with rfl | rfl <;> rfl
theorem ret_iw {x : Int32} {h : Hp} {r : Int32 × Hp} (hf : some (x, h) = some r) : some (Value.int x) = some (Value.int r.1) ∧ h = r.2 := by cases hf; exact ⟨rfl, rfl⟩
theorem ret_aw {x : Nat} {h : Hp} {r : Nat × Hp} (hf : some (x, h) = some r) : some (Value.ref x) = some (Value.ref r.1) ∧ h = r.2 := by cases hf; exact ⟨rfl, rfl⟩
theorem i32_ne {x y : Int32} (h : ¬ x = y) : x.toInt ≠ y.toInt := fun e => h (Int32.toInt_inj.mp e)
theorem tab_out7_0 {x : Int32} (h0 : ¬ x = 0) (h1 : ¬ x = 1) (h2 : ¬ x = 2) (h3 : ¬ x = 3) (h4 : ¬ x = 4) (h5 : ¬ x = 5) (h6 : ¬ x = 6) : x.toInt < 0 ∨ 6 < x.toInt := by
  have a0 := i32_ne h0; have a1 := i32_ne h1; have a2 := i32_ne h2; have a3 := i32_ne h3; have a4 := i32_ne h4; have a5 := i32_ne h5; have a6 := i32_ne h6
  rw [show (0 : Int32).toInt = 0 from rfl] at a0; rw [show (1 : Int32).toInt = 1 from rfl] at a1; rw [show (2 : Int32).toInt = 2 from rfl] at a2; rw [show (3 : Int32).toInt = 3 from rfl] at a3; rw [show (4 : Int32).toInt = 4 from rfl] at a4; rw [show (5 : Int32).toInt = 5 from rfl] at a5; rw [show (6 : Int32).toInt = 6 from rfl] at a6
  omega
theorem tab_out3_1 {x : Int32} (h1 : ¬ x = 1) (h2 : ¬ x = 2) (h3 : ¬ x = 3) : x.toInt < 1 ∨ 3 < x.toInt := by
  have a1 := i32_ne h1; have a2 := i32_ne h2; have a3 := i32_ne h3
  rw [show (1 : Int32).toInt = 1 from rfl] at a1; rw [show (2 : Int32).toInt = 2 from rfl] at a2; rw [show (3 : Int32).toInt = 3 from rfl] at a3
  omega
def nfw : Nat := nativeFrameWords "java/lang/System" "arraycopy" 5
theorem nfw_le : nfw ≤ 20 := by decide
section PWX
variable {g : GT} {l : Launch} {M : MD} {d kc ks pc : Nat} {lo : List (Option Value)} {st : List Value} {h : Hp} {Q : Option Value → Hp → Prop} {α : Type} {r : α}
theorem pw_ldcw {i : Nat} {v : Int32} (hdg : decode M.1 pc = .ok (.ldc_w i, 3)) (hw : Cond.constant M.2.1 i v ∈ M.2.2.2.1) (k : PW g l M d kc ks (pc + 3) lo (.int v :: st) h Q) : PW g l M d kc ks pc lo st h Q := fun p e R s m args below meth c H locs cells slots ls C hr hl hR hS hz => lv_ldcw C.1 C.2.1 C.2.2.2.1 (C.2.2.2.2.1 _ hw) hdg (k p e R s m args below meth c H locs cells slots ls C hr hl hR hS hz)
/-- System.arraycopy between two arrays of small numbers -/
def cpA (h : Hp) (kd a0 : Nat) (sp : Int32) (a : Nat) (dp n : Int32) : Option Hp := match h.2 a0, h.2 a with
  | some (.inl (k0, n0, .inl f)), some (.inl (k1, n1, .inl f1)) => if (k0 = kd ∧ k1 = kd) ∧ (¬ sp < 0 ∧ ¬ dp < 0 ∧ ¬ n < 0) ∧ sp.toNatClampNeg + n.toNatClampNeg ≤ n0 ∧ dp.toNatClampNeg + n.toNatClampNeg ≤ n1 ∧ (∀ i, i < n.toNatClampNeg → fits (akT kd) (.int (f (sp.toNatClampNeg + i))) = true) then some (hset h a (.inl (kd, n1, .inl (va_cpy f f1 sp.toNatClampNeg dp.toNatClampNeg n.toNatClampNeg)))) else none
  | _, _ => none
theorem cpA_spec {h h' : Hp} {kd a0 a : Nat} {sp dp n : Int32} (q : cpA h kd a0 sp a dp n = some h') : ∃ n0 n1 f f1, h.2 a0 = some (.inl (kd, n0, .inl f)) ∧ h.2 a = some (.inl (kd, n1, .inl f1)) ∧ (¬ sp < 0 ∧ ¬ dp < 0 ∧ ¬ n < 0) ∧ sp.toNatClampNeg + n.toNatClampNeg ≤ n0 ∧ dp.toNatClampNeg + n.toNatClampNeg ≤ n1 ∧ (∀ i, i < n.toNatClampNeg → fits (akT kd) (.int (f (sp.toNatClampNeg + i))) = true) ∧ h' = hset h a (.inl (kd, n1, .inl (va_cpy f f1 sp.toNatClampNeg dp.toNatClampNeg n.toNatClampNeg))) := by
  unfold cpA at q
  split at q
  · split at q
    · rename_i k0 n0 f k1 n1 f1 e0 e1 e2
      obtain ⟨⟨e6, e7⟩, e3, e4, e5, e8⟩ := e2
      subst e6
      subst e7
      cases q
      exact ⟨_, _, _, _, e0, e1, e3, e4, e5, e8, rfl⟩
    · cases q
  · cases q
theorem q_copy {kd a0 a i : Nat} {sp dp n : Int32} {F : Hp → Option α} (hf : (cpA h kd a0 sp a dp n).bind F = some r) (hkd : kd < 6) (hprim : refKind (akT kd) = false) (hlk : Cond.methodLink M.2.1 i arraycopyName ∈ M.2.2.2.1) (hnat : Cond.native arraycopyName ∈ M.2.2.2.1) (hsta : Cond.static arraycopyName ∈ M.2.2.2.1) (hini : Cond.initialized "java/lang/System" ∈ M.2.2.2.1) (hdep : 1 ≤ d) (hrest : (st.map fun v => v.category).sum ≤ 8) (hdg : decode M.1 pc = .ok (.invokestatic i, 3)) (kk : ∀ h', F h' = some r → PW g l M d kc ks (pc + 3) lo st h' Q) : PW g l M d kc ks pc lo (.int n :: .int dp :: .ref a :: .int sp :: .ref a0 :: st) h Q := by
  obtain ⟨h9, e9, hf⟩ := ob hf
  obtain ⟨n0, n1, f, f1, ha0, ha1, ⟨h1, h2, h3⟩, h4, h5, hfit, rfl⟩ := cpA_spec e9
  have hk9 := kk _ hf
  intro p e R s m args below meth c H locs cells slots ls C hr hl hR hS hz
  have nn : ∀ z : Int32, ¬ z < 0 → z.toInt = (z.toNatClampNeg : Int) := by
    intro z hz
    have hz0 : (0 : Int) ≤ z.toInt := by
      have := Int32.not_lt.mp hz
      simpa using Int32.le_iff_toInt_le.mp this
    show z.toInt = ((z.toInt.toNat : Nat) : Int)
    omega
  intro T hT X
  have hc0 : H[g.1 + a0]? = some (vp_cell (g.2.2.1 kd) (n0, .inl f)) := hR.2 a0 _ ha0
  have hc1 : H[g.1 + a]? = some (vp_cell (g.2.2.1 kd) (n1, .inl f1)) := hR.2 a _ ha1
  obtain ⟨-, k0, hk0, cm0, hkk0⟩ := (C.2.2.2.2.2.1.2.1 kd hkd).1 n0 (fun j => .int (f j))
  obtain ⟨-, k1, hk1, cm1, hkk1⟩ := (C.2.2.2.2.2.1.2.1 kd hkd).1 n1 (fun j => .int (f1 j))
  have hsum : ((st.map (trV g)).map fun v => v.category).sum ≤ 8 := by rw [sum_cat]; exact hrest
  obtain ⟨vm', X', step⟩ := X.arraycopy C.1 C.2.2.2.1 (C.2.2.2.2.1 _ hlk) (C.2.2.2.2.1 _ hnat) (C.2.2.2.2.1 _ hsta) (C.2.2.2.2.1 _ hini) (src := g.1 + a0) (dst := g.1 + a) (cs := vp_cell (g.2.2.1 kd) (n0, .inl f)) (cd := vp_cell (g.2.2.1 kd) (n1, .inl f1)) (srcPos := sp) (destPos := dp) (n := n) (by rw [hT]; exact hc0) (by rw [hT]; exact hc1)
    (fun _ h => by cases h) (fun _ h => by cases h) (fun h => by cases h) (fun h => by cases h) hk0 hk1 hkk0 hkk1 (by simp [hprim]) h1 h2 h3
    (by rw [nn sp h1, nn n h3]; show ¬ _ > ((arrV (g.2.2.1 kd) n0 (fun j => .int (f j))).slots.size : Int); rw [arrV_size]; omega)
    (by rw [nn dp h2, nn n h3]; show ¬ _ > ((arrV (g.2.2.1 kd) n1 (fun j => .int (f1 j))).slots.size : Int); rw [arrV_size]; omega)
    (fun vm₁ _ i hi => by
      have e : (vp_cell (g.2.2.1 kd) (n0, .inl f)).slots.getD (sp.toNatClampNeg + i) .null = .int (f (sp.toNatClampNeg + i)) := by
        show (arrV (g.2.2.1 kd) n0 (fun j => .int (f j))).slots.getD _ _ = _
        rw [Array.getD_eq_getD_getElem?, arrV_read _ _ (by omega)]
        rfl
      refine ⟨?_, ?_⟩
      · rw [e]
        exact hfit i hi
      · rw [e]
        exact trivial)
    (g := F0 m pc ls (.int n :: .int dp :: .ref (g.1 + a) :: .int sp :: .ref (g.1 + a0) :: st.map (trV g))) rfl (hl.1.trans C.2.2.1.symm) (rest := st.map (trV g)) rfl (by rw [C.2.1]; exact hdg) (by omega) (by show 2 * 0 + _ + (nativeFrameWords "java/lang/System" "arraycopy" 5 + 11) ≤ _; rw [show nativeFrameWords "java/lang/System" "arraycopy" 5 = nfw from rfl]; have := nfw_le; omega)
  have e1 : copied (vp_cell (g.2.2.1 kd) (n0, .inl f)) (vp_cell (g.2.2.1 kd) (n1, .inl f1)) sp dp n = vp_cell (g.2.2.1 kd) (n1, .inl (va_cpy f f1 sp.toNatClampNeg dp.toNatClampNeg n.toNatClampNeg)) := va_copied (fun z => .int z) (g.2.2.1 kd) (g.2.2.1 kd) f f1 h4
  rw [e1] at X' step
  have hl9 : g.1 + a < H.size := (Array.getElem?_eq_some_iff.mp hc1).1
  generalize hcell : vp_cell (g.2.2.1 kd) (n1, .inl (va_cpy f f1 sp.toNatClampNeg dp.toNatClampNeg n.toNatClampNeg)) = cell at X' step
  have hheap : ((T.setVm vm').setCell (g.1 + a) cell).heap = H.setIfInBounds (g.1 + a) cell := by rw [← hT]; rfl
  have oq : ∀ q : Nat, q ≠ g.1 + a → (H.setIfInBounds (g.1 + a) cell)[q]? = H[q]? := fun q hq => by simp [Array.getElem?_setIfInBounds, Ne.symm hq]
  have hat : va_at g.2.1 vwCl (g.1 + a, trE g (.inl (kd, n1, .inl (va_cpy f f1 sp.toNatClampNeg dp.toNatClampNeg n.toNatClampNeg)))) (H.setIfInBounds (g.1 + a) cell) := by
    show (H.setIfInBounds (g.1 + a) cell)[g.1 + a]? = some (vp_cell (g.2.2.1 kd) (n1, .inl (va_cpy f f1 sp.toNatClampNeg dp.toNatClampNeg n.toNatClampNeg)))
    rw [hcell]
    simp [Array.getElem?_setIfInBounds, hl9]
  obtain ⟨t, a1, b1⟩ := hk9 p e R s m args below meth c _ _ cells slots ls C hr hl (hR.put (H1 := H.setIfInBounds (g.1 + a) cell) (by simp) oq hat) ⟨by simp; exact hS.1, fun q g1 g2 => by
      rw [oq q (fun e => g2 (by rw [e]; exact Nat.le_add_right _ _))]
      exact hS.2.1 q g1 g2, fun q hq => by
      rcases List.mem_append.mp hq with h | h
      · exact hS.2.2 q h
      · obtain ⟨z, -, hz⟩ := List.mem_map.mp h
        rw [← hz]
        exact Nat.le_add_right _ _⟩ hz _ hheap X'
  exact ⟨t, step t a1, b1⟩
/-- a contract out of a walk, by the method's own name (classes of which single methods are run by entries) -/
theorem Met.ofWF {y : MethodName} {ws ws' : List Cond} {rm : Room} {Pc : Array Value → State → Prop} {Qc : Array Value → State → Outcome → State → Prop} {mc ms : Nat} {free : Addr → Prop} {cc : ByteArray} {maxL : Nat} {ret : Option FieldType}
    (hy : plainFor y = true) (hw : ws = Cond.code y cc maxL ret :: ws')
    (body : ∀ p e s m args below meth c s₁, BodyLoose p l y (headSpec ws rm) cc maxL ret e s m args below meth c s₁ → c.maxLocals = maxL → Pc args s →
      W p l e (headSpec ws rm).room s m args below meth c s.heap [] 0 0 (MQ below Qc args s mc ms free) (entryFrame m args maxL)) : Met l y ws rm Pc Qc mc ms free := by
  refine MetFree.of_bodySF (code := cc) (maxLocals := maxL) (ret := ret) hy ?_ ?_
  · intro args s m h hn
    obtain ⟨meth, c, h1, h2, h3, h4, h5, h6, -, -⟩ := Cond.code_spec hn (atoms_spec (ws := ws) h _ (by rw [hw]; exact List.mem_cons_self))
    exact ⟨meth, c, h1, h2, h3, h4, h5, h6⟩
  · intro p e s m args below meth c s₁ B hml hP _
    have hh0 : s₁.heap = s.heap := by rw [B.state]; rfl
    obtain ⟨t, a1, o, b1, b2, b3⟩ := body p e s m args below meth c s₁ B hml hP s₁ hh0 (Stand.of_body B)
    exact ⟨t, o, a1, b1, b2, ⟨b3.1, b3.2⟩⟩
theorem pm_ofF {y : MethodName} {as : List Value} {ws' : List Cond} (hy : plainFor y = true) (hw : M.2.2.2.1 = Cond.code y M.1 M.2.2.2.2.1 M.2.2.2.2.2 :: ws') (hcls : M.2.1 = y.cls) (hnm : M.2.2.1 = y.name) (hlen : (loE as).length ≤ M.2.2.2.2.1) (hlo : loE as ++ List.replicate (M.2.2.2.2.1 - (loE as).length) none = lo) (k : PW g l M d kc ks 0 lo [] h Q) : PM g l d kc ks y M.2.2.2.1 as h Q := by
  refine Met.ofWF (cc := M.1) (maxL := M.2.2.2.2.1) (ret := M.2.2.2.2.2) hy hw ?_
  intro p e s m args below meth c s₁ B hml hv
  obtain ⟨rfl, hR, hK⟩ := hv
  have hown : s.vm.findClass y.cls = some m.cls := findClass_of_methodNamed B.named
  have hC : CX g M p s m (as.map (trV g)).toArray meth c := ⟨B.exec, B.bytes, hml, by rw [hcls]; exact hown, atoms_spec (ws := M.2.2.2.1) B.pre, hK, B.returns, B.notSynchronized, by rw [hnm]; exact (name_of_methodNamed B.named B.method).1⟩
  have hl := lv_entry (as.map (trV g)) (n := M.2.2.2.2.1) (by rw [loE_len]; exact hlen)
  rw [lg_entry_eq]
  generalize (lg_sl (as.map (trV g)) ++ List.replicate (M.2.2.2.2.1 - (lg_sl (as.map (trV g))).length) Slot.unset).toArray = ls at hl ⊢
  have hlR : lvR g ls M.2.2.2.2.1 lo := ⟨hl.1, hl.2.1, fun i v hi => by
    rw [← hlo] at hi
    by_cases hi2 : i < (loE as).length
    · rw [List.getElem?_append_left hi2] at hi
      have := loE_spec g as 0 i v hi
      rw [Nat.zero_add] at this
      exact hl.2.2 _ this
    · rw [List.getElem?_append_right (by omega), List.getElem?_replicate] at hi
      split at hi
      · cases hi
      · cases hi⟩
  have hz : g.1 ≤ s.heap.size := by rw [hR.1]; exact Nat.le_add_right _ _
  have := k p e (headSpec M.2.2.2.1 { frames := d, cells := kc, slots := ks, locals := 40 * d }).room s m (as.map (trV g)).toArray below meth c s.heap [] 0 0 ls hC ⟨Nat.le_refl _, Nat.le_refl _, by rw [Nat.zero_add]; exact Nat.le_refl _, by rw [Nat.zero_add]; exact Nat.le_refl _⟩ hlR hR va_S.rf hz
  rw [Nat.zero_add, Nat.zero_add] at this
  exact this
end PWX
