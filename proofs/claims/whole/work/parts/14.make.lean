/-! what is made -/
def nO (h : Hp) (ci : Nat) (fs : List Value) : Option (Nat × Hp) := some (h.1, hpush h (.inr (ci, fs)))
def zA (kd : Nat) : ((Nat → Int32) ⊕ (Nat → Int64) ⊕ (Nat → UInt32) ⊕ (Nat → UInt64) ⊕ (Nat → Option Nat)) := if kd = 2 then .inr (.inl fun _ => 0) else if kd = 4 then .inr (.inr (.inr (.inr fun _ => none))) else .inl fun _ => 0
/-- an array of at most K places -/
def nA (h : Hp) (kd K : Nat) (n : Int32) : Option (Nat × Hp) := if n < 0 ∨ K < n.toNatClampNeg then none else some (h.1, hpush h (.inl (kd, n.toNatClampNeg, zA kd)))
/-- an array of N rows of K ints -/
def hmul (h : Hp) (N K : Nat) : Hp := (h.1 + 1 + N, fun k => if k = h.1 then some (.inl (5, N, .inr (.inr (.inr (.inr fun i => if i < N then some (h.1 + 1 + i) else none))))) else if h.1 < k ∧ k < h.1 + 1 + N then some (.inl (0, K, .inl fun _ => 0)) else h.2 k)
def sQ (h : Hp) (a : Nat) (i : Int32) (v : Nat) : Option Hp := match h.2 a, h.2 v with
  | some (.inl (k, n, .inr (.inr (.inr (.inr f))))), some (.inr (c, _)) => if (k = 4 ∧ c = 2) ∧ ¬ (i < 0 ∨ n ≤ i.toNatClampNeg) then some (hset h a (.inl (4, n, .inr (.inr (.inr (.inr (va_up f i.toNatClampNeg (some v)))))))) else none
  | _, _ => none
theorem sQ_spec {h h' : Hp} {a v : Nat} {i : Int32} (q : sQ h a i v = some h') : ∃ n f fs, h.2 a = some (.inl (4, n, .inr (.inr (.inr (.inr f))))) ∧ h.2 v = some (.inr (2, fs)) ∧ vp_in i n ∧ h' = hset h a (.inl (4, n, .inr (.inr (.inr (.inr (va_up f i.toNatClampNeg (some v))))))) := by
  unfold sQ at q
  split at q
  · split at q
    · rename_i k n f c fs e1 e2 e3
      obtain ⟨⟨e4, e5⟩, e6⟩ := e3
      subst e4
      subst e5
      cases q
      exact ⟨_, _, _, e1, e2, e6, rfl⟩
    · cases q
  · cases q
section PWM
variable {g : GT} {l : Launch} {M : MD} {d kc ks pc : Nat} {lo : List (Option Value)} {st : List Value} {h : Hp} {Q : Option Value → Hp → Prop} {α : Type} {r : α}
/-- a larger room -/
theorem pw_more {x y : Nat} (k : PW g l M d kc ks pc lo st h Q) : PW g l M d (x + kc) (y + ks) pc lo st h Q := by
  intro p e R s m args below meth c H locs cells slots ls C hr hl hR hS hz
  have := k p e R s m args below meth c H locs (cells + x) (slots + y) ls C ⟨hr.1, hr.2.1, by omega, by omega⟩ hl hR hS hz
  rw [Nat.add_assoc, Nat.add_assoc] at this
  exact W.widen (Nat.le_add_right _ _) (Nat.le_add_right _ _) this
theorem push_S {s : State} {H H1 : Heap} {locs : List Loc} (hS : va_S (fun q => g.1 ≤ q) s.heap H locs) (hle : H.size ≤ H1.size) (o : ∀ q : Nat, q < H.size → H1[q]? = H[q]?) : va_S (fun q => g.1 ≤ q) s.heap H1 locs := ⟨Nat.le_trans hS.1 hle, fun q h1 h2 => (o q (Nat.lt_of_lt_of_le h1 hS.1)).trans (hS.2.1 q h1 h2), hS.2.2⟩
theorem q_new {ci N i kc2 ks2 : Nat} {C : String} {T : u_T} {fs : List Value} {F : Nat × Hp → Option α} (hf : (nO h ci fs).bind F = some r) (ty : Nat → FieldType) (hty : ∀ k, k < N → parseFieldDescriptor (T k).2.2.1 = some (ty k)) (hc : vwCl[ci]? = some (C, T, N)) (hin : ∀ w ∈ u_ws C T N, w ∈ M.2.2.2.1) (hcl : Cond.classLink M.2.1 i C ∈ M.2.2.2.1) (hinst : Cond.instantiable C N ∈ M.2.2.2.1) (hini : Cond.initialized C ∈ M.2.2.2.1) (hfs : ∀ j, j < N → defaultValue (ty j) = vp_V (fs.map (trV g)) j) (hcap : kc = 1 + kc2 ∧ ks = N + ks2) (hdg : decode M.1 pc = .ok (.new i, 3)) (kk : ∀ x, F x = some r → PW g l M d kc2 ks2 (pc + 3) lo (.ref x.1 :: st) x.2 Q) : PW g l M d kc ks pc lo st h Q := by
  obtain ⟨rfl, rfl⟩ := hcap
  have hk9 := kk (h.1, hpush h (.inr (ci, fs))) hf
  intro p e R s m args below meth c H locs cells slots ls C hr hl hR hS hz
  have hKn := C.2.2.2.2.2.1.1.1 ci _ hc
  refine W.newcK C.1 C.2.1 C.2.2.2.1 (C.2.2.2.2.1 _ hcl) (C.2.2.2.2.1 _ hinst) (C.2.2.2.2.1 _ hini) rfl hdg (by omega) (by omega) hKn.2.1 (h := g.1 + h.1) hR.1 fun H1 kC hkC e1 z1 o1 => ?_
  have := hk9 p e R s m args below meth c H1 locs (cells + 1) (slots + N) ls C ⟨hr.1, hr.2.1, by omega, by omega⟩ hl (hR.push z1 o1 ⟨_, hc, (u_born ty C.2.2.2.2.1 hin hKn hkC e1 hty).to hfs⟩) (push_S hS (by rw [hR.1, z1]; omega) (fun q hq => o1 q (by rw [← hR.1]; exact hq))) hz
  rw [Nat.add_assoc, Nat.add_assoc] at this
  exact this
theorem q_newa {kd K kc2 ks2 : Nat} {at9 : ArrayType} {n : Int32} {F : Nat × Hp → Option α} (hf : (nA h kd K n).bind F = some r) (hkd : kd < 4) (hat : newarray.typeOf at9 = akT kd) (harr : Cond.arrayClass (newarray.typeOf at9) ∈ M.2.2.2.1) (hK : K ≤ 10000) (hcap : kc = 1 + kc2 ∧ ks = K + ks2) (hdg : decode M.1 pc = .ok (.newarray at9, 2)) (kk : ∀ x, F x = some r → PW g l M d kc2 ks2 (pc + 2) lo (.ref x.1 :: st) x.2 Q) : PW g l M d kc ks pc lo (.int n :: st) h Q := by
  obtain ⟨rfl, rfl⟩ := hcap
  unfold nA at hf
  by_cases hn : n < 0 ∨ K < n.toNatClampNeg
  · rw [if_pos hn] at hf; cases hf
  · rw [if_neg hn] at hf
    have hk9 := kk (h.1, hpush h (.inl (kd, n.toNatClampNeg, zA kd))) hf
    have hn1 : ¬ n < 0 := fun q => hn (Or.inl q)
    have hn2 : n.toNatClampNeg ≤ K := Nat.not_lt.mp fun q => hn (Or.inr q)
    intro p e R s m args below meth c H locs cells slots ls C hr hl hR hS hz
    have hb8 : componentBytes (newarray.typeOf at9) ≤ 8 := by cases at9 <;> decide
    have hby : n.toNatClampNeg * componentBytes (newarray.typeOf at9) ≤ 536870912 := Nat.le_trans (Nat.mul_le_mul hn2 hb8) (by omega)
    refine va_newaK C.1 C.2.1 (C.2.2.2.2.1 _ harr) rfl hdg rfl hn1 rfl hby (by omega) (by omega) (h := g.1 + h.1) hR.1 fun H1 cA e1 z1 o1 hAr hNm => ?_
    have hcA : cA = g.2.2.1 kd := by
      have h1 := (C.2.2.2.2.2.1.2.1 kd (by omega)).2
      rw [hat] at hNm
      have hk4 : kd = 0 ∨ kd = 1 ∨ kd = 2 ∨ kd = 3 := by omega
      rcases hk4 with rfl | rfl | rfl | rfl <;> exact Option.some.inj (hNm.symm.trans h1)
    have hcell : va_at g.2.1 vwCl (g.1 + h.1, trE g (.inl (kd, n.toNatClampNeg, zA kd))) H1 := by
      have hk4 : kd = 0 ∨ kd = 1 ∨ kd = 2 ∨ kd = 3 := by omega
      rw [hcA, hat] at e1
      rcases hk4 with rfl | rfl | rfl | rfl <;> exact e1
    have := hk9 p e R s m args below meth c H1 locs (cells + 1) (slots + K) ls C ⟨hr.1, hr.2.1, by omega, by omega⟩ hl (hR.push z1 o1 hcell) (push_S hS (by rw [hR.1, z1]; omega) (fun q hq => o1 q (by rw [← hR.1]; exact hq))) hz
    rw [Nat.add_assoc, Nat.add_assoc] at this
    exact W.widen (Nat.le_refl _) (Nat.add_le_add_left hn2 _) this
theorem q_anew {K i kc2 ks2 : Nat} {n : Int32} {F : Nat × Hp → Option α} (hf : (nA h 4 K n).bind F = some r) (hcl : Cond.classLink M.2.1 i "TwinRows$Frame" ∈ M.2.2.2.1) (hK : K ≤ 10000) (hcap : kc = 1 + kc2 ∧ ks = K + ks2) (hdg : decode M.1 pc = .ok (.anewarray i, 3)) (kk : ∀ x, F x = some r → PW g l M d kc2 ks2 (pc + 3) lo (.ref x.1 :: st) x.2 Q) : PW g l M d kc ks pc lo (.int n :: st) h Q := by
  obtain ⟨rfl, rfl⟩ := hcap
  unfold nA at hf
  by_cases hn : n < 0 ∨ K < n.toNatClampNeg
  · rw [if_pos hn] at hf; cases hf
  · rw [if_neg hn] at hf
    have hk9 := kk (h.1, hpush h (.inl (4, n.toNatClampNeg, zA 4))) hf
    have hn1 : ¬ n < 0 := fun q => hn (Or.inl q)
    have hn2 : n.toNatClampNeg ≤ K := Nat.not_lt.mp fun q => hn (Or.inr q)
    intro p e R s m args below meth c H locs cells slots ls C hr hl hR hS hz
    refine W.anew C.1 C.2.1 C.2.2.2.1 (C.2.2.2.2.1 _ hcl) (va_AO.use C.2.2.2.2.2.1.2.2.2.1.2) rfl hdg rfl hn1 (by omega) (by omega) (by omega) fun cA kA comp h1 h2 h3 h4 => ?_
    have hcA : cA = g.2.2.1 4 := by
      obtain ⟨kA', comp', q1, q2, q3, q4⟩ := (C.2.2.2.2.2.1.2.1 4 (by omega)).2
      exact Option.some.inj (h1.symm.trans q4)
    subst hcA
    have o1 : ∀ q : Nat, q < g.1 + h.1 → (H.push ({ cls := g.2.2.1 4, slots := Array.replicate n.toNatClampNeg .null, vm := .none } : Cell))[q]? = H[q]? := fun q hq => by rw [Array.getElem?_push, if_neg (by rw [hR.1]; exact Nat.ne_of_lt hq)]
    have hcell : va_at g.2.1 vwCl (g.1 + h.1, trE g (.inl (4, n.toNatClampNeg, zA 4))) (H.push ({ cls := g.2.2.1 4, slots := Array.replicate n.toNatClampNeg .null, vm := .none } : Cell)) := by
      show (H.push _)[g.1 + h.1]? = some (vp_cell (g.2.2.1 4) (n.toNatClampNeg, .inr (.inr (.inr (.inr (trQ g fun _ => none))))))
      rw [← hR.1, vp_cell_q, arrV_new]
      simp [trQ, va_rf]
    have := hk9 p e R s m args below meth c _ locs (cells + 1) (slots + K) ls C ⟨hr.1, hr.2.1, by omega, by omega⟩ hl (hR.push (by simp [hR.1]) o1 hcell) (push_S hS (by simp) (fun q hq => o1 q (by rw [← hR.1]; exact hq))) hz
    rw [Nat.add_assoc, Nat.add_assoc] at this
    rw [hR.1]
    exact W.widen (Nat.le_refl _) (Nat.add_le_add_left hn2 _) this
theorem q_aast {a v : Nat} {i : Int32} {F : Hp → Option α} (hf : (sQ h a i v).bind F = some r) (hdg : decode M.1 pc = .ok (.aastore, 1)) (kk : ∀ h', F h' = some r → PW g l M d kc ks (pc + 1) lo st h' Q) : PW g l M d kc ks pc lo (.ref v :: .int i :: .ref a :: st) h Q := by
  obtain ⟨h9, e9, hf⟩ := Option.bind_eq_some_iff.mp hf
  obtain ⟨n, f, fs, ha, hv, hin, rfl⟩ := sQ_spec e9
  have hk9 := kk _ hf
  intro p e R s m args below meth c H locs cells slots ls C hr hl hR hS hz
  have hlt : i.toNatClampNeg < n := Nat.not_le.mp fun q => hin (Or.inr q)
  have h0 : ¬ i < 0 := fun q => hin (Or.inl q)
  obtain ⟨r', hr', cellV, g1, g2, g3, -⟩ := hR.2 v _ hv
  have hc2 : vwCl[2]? = some (RX2, TX2, 4) := rfl
  have hcls := (C.2.2.2.2.2.1.1.1 2 _ hc2).2
  obtain ⟨kA, comp, k1, k2, k3, -⟩ := (C.2.2.2.2.2.1.2.1 4 (by omega)).2
  have hcomp : comp = g.2.1.1 2 := Option.some.inj (k3.symm.trans hcls.1)
  subst hcomp
  obtain ⟨kC, hkC, -⟩ := hcls.2
  refine W.aast C.1 C.2.1 (hR.2 a _ ha) (fun q h => by cases h) (fun h => by cases h) k1 k2 rfl hkC ⟨h0, by show _ < (arrV _ _ _).slots.size; rw [arrV_size]; exact hlt⟩ g1 (fun q h => by rw [g3] at h; cases h) (by rw [g2]; exact hkC) (by rw [g2]; exact va_assign hcls) rfl rfl hdg fun H1 e z oq => ?_
  refine hk9 p _ R s m args below meth c H1 _ cells slots ls C hr hl (hR.put z oq ?_) (hS.put z oq (Nat.le_add_right _ _)) hz
  show H1[g.1 + a]? = some (vp_cell (g.2.2.1 4) (n, .inr (.inr (.inr (.inr (trQ g (va_up f i.toNatClampNeg (some v))))))))
  rw [e]
  show some ((vp_cell (g.2.2.1 4) (n, .inr (.inr (.inr (.inr (trQ g f)))))).setSlot _ _) = _
  rw [vp_cell_q, vp_cell_q, arrV_store]
  congr 2
  funext q
  by_cases hq : q = i.toNatClampNeg
  · subst hq
    simp [updV, va_up, va_rf, trQ]
  · simp [updV, va_up, hq, trQ]
theorem q_mul {i kc2 ks2 : Nat} {F : Hp → Option α} (hf : (some (hmul h 16 19)).bind F = some r) (hcl : Cond.classLink M.2.1 i "[[I" ∈ M.2.2.2.1 ∧ Cond.arrayClass .int ∈ M.2.2.2.1) (hcap : kc = 17 + kc2 ∧ ks = 320 + ks2) (hdg : decode M.1 pc = .ok (.multianewarray i 2, 4)) (kk : ∀ h', F h' = some r → PW g l M d kc2 ks2 (pc + 4) lo (.ref h.1 :: st) h' Q) : PW g l M d kc ks pc lo (.int 19 :: .int 16 :: st) h Q := by
  obtain ⟨rfl, rfl⟩ := hcap
  have hk9 := kk _ hf
  intro p e R s m args below meth c H locs cells slots ls C hr hl hR hS hz
  intro T hT Xs
  have e0 : "[" ++ (FieldType.array .int).toString = "[[I" := by decide +kernel
  obtain ⟨vm₁, cA, comp, -, fA, fC, hO, -, X', step⟩ := Xs.multianewarray2F C.1 C.2.2.2.1 (by rw [e0]; exact C.2.2.2.2.1 _ hcl.1) (va_AOA.use C.2.2.2.2.2.1.2.2.2.1.1) (C.2.2.2.2.1 _ hcl.2) (g := F0 m pc ls (.int 19 :: .int 16 :: st.map (trV g))) rfl (by rw [C.2.1]; exact hdg) rfl (by decide) (by decide) (by decide) (by decide) (by decide) rfl rfl (by show cells + (1 + 16) ≤ R.cells; omega) (by show slots + (16 + 16 * 19) ≤ R.slots; omega)
  have ec : g.2.2.1 0 = comp := Option.some.inj (((C.2.2.2.2.2.1.2.1 0 (by omega)).2 : s.vm.findClass _ = some _).symm.trans fC)
  have eA : cA = g.2.2.1 5 := Option.some.inj (fA.symm.trans ((C.2.2.2.2.2.1.2.1 5 (by omega)).2 : s.vm.findClass _ = some _))
  subst ec
  subst eA
  generalize hF : Jvm.Free.Multi.fill (T.setVm vm₁) (g.2.2.1 5) (g.2.2.1 0) (16 : Int32).toNatClampNeg (19 : Int32).toNatClampNeg (defaultValue .int) (16 : Int32).toNatClampNeg = F9 at X' step
  have hTh : (T.setVm vm₁).heap = H := hT
  obtain ⟨f1, f2, -, -⟩ := Jvm.Free.Multi.fill_facts (T.setVm vm₁) (g.2.2.1 5) (g.2.2.1 0) (16 : Int32).toNatClampNeg (19 : Int32).toNatClampNeg (defaultValue .int) (16 : Int32).toNatClampNeg
  rw [hF, hTh] at f1 f2
  have hold : ∀ x : Nat, x < H.size → F9.heap[x]? = H[x]? := fun x hx => by
    have := Jvm.Free.Multi.fill_old (T.setVm vm₁) (g.2.2.1 5) (g.2.2.1 0) (16 : Int32).toNatClampNeg (19 : Int32).toNatClampNeg (defaultValue .int) (a := x) (by rw [hTh]; exact hx) (16 : Int32).toNatClampNeg
    rw [hF, hTh] at this
    exact this
  have hz9 : ∀ c : ClassId, Jvm.Free.Multi.innerC c 19 (defaultValue .int) = vp_cell c (19, .inl fun _ => 0) := fun c => by
    show ({ cls := c, slots := Array.replicate 19 (.int 0), vm := .none } : Cell) = _
    rw [arrV_new]
    rfl
  have hrow : ∀ j : Nat, j < 16 → F9.heap[H.size + 1 + j]? = some (vp_cell (g.2.2.1 0) (19, .inl fun _ => 0)) := fun j hj => by
    have := Jvm.Free.Multi.fill_inner (T.setVm vm₁) (g.2.2.1 5) (g.2.2.1 0) (16 : Int32).toNatClampNeg (19 : Int32).toNatClampNeg (defaultValue .int) (16 : Int32).toNatClampNeg j hj
    rw [hF, hTh] at this
    exact this.trans (congrArg some (hz9 _))
  have hout : Jvm.Free.Multi.outerC (g.2.2.1 5) 16 H.size 16 = vp_cell (g.2.2.1 5) (16, .inr (.inr (.inr (.inr (fun i => if i < 16 then some (H.size + 1 + i) else none))))) := by
    rw [vp_cell_q]
    exact vr_outer (g.2.2.1 5) 16 H.size 16
  have f2' : F9.heap[H.size]? = some (vp_cell (g.2.2.1 5) (16, .inr (.inr (.inr (.inr (fun i => if i < 16 then some (H.size + 1 + i) else none)))))) := by rw [← hout]; exact f2
  have f1' : F9.heap.size = H.size + 1 + 16 := f1
  have hR2 : REL g (hmul h 16 19) F9.heap := by
    refine ⟨by rw [f1', hR.1]; simp only [hmul]; omega, fun k e9 hk => ?_⟩
    simp only [hmul] at hk
    by_cases h1 : k = h.1
    · rw [if_pos h1] at hk
      cases hk
      subst h1
      show F9.heap[g.1 + h.1]? = some (vp_cell (g.2.2.1 5) (16, .inr (.inr (.inr (.inr (trQ g fun i => if i < 16 then some (h.1 + 1 + i) else none))))))
      have hfun : (fun i => if i < 16 then some (H.size + 1 + i) else none) = trQ g (fun i => if i < 16 then some (h.1 + 1 + i) else none) := by
        funext i
        simp only [trQ]
        by_cases hi : i < 16
        · rw [if_pos hi, if_pos hi, hR.1]
          show some _ = some (g.1 + (h.1 + 1 + i))
          congr 1
          omega
        · rw [if_neg hi, if_neg hi]
          rfl
      rw [← hR.1, f2', hfun]
    · rw [if_neg h1] at hk
      by_cases h2 : h.1 < k ∧ k < h.1 + 1 + 16
      · rw [if_pos h2] at hk
        cases hk
        have := hrow (k - h.1 - 1) (by omega)
        show F9.heap[g.1 + k]? = some (vp_cell (g.2.2.1 0) (19, .inl fun _ => 0))
        rw [← this, hR.1]
        congr 1
        omega
      · rw [if_neg h2] at hk
        have h3 := hR.2 k e9 hk
        exact h3.kept (hold _ h3.lt)
  have := hk9 p e R s m args below meth c F9.heap locs (cells + 17) (slots + 320) ls C ⟨hr.1, hr.2.1, by omega, by omega⟩ hl hR2 (push_S hS (by rw [f1']; omega) hold) hz
  rw [Nat.add_assoc, Nat.add_assoc] at this
  obtain ⟨t, a1, b1⟩ := this F9 rfl X'
  refine ⟨t, step t ?_, b1⟩
  have eT : T.heap.size = g.1 + h.1 := by rw [hT, hR.1]
  rw [eT]
  exact a1
end PWM
