/-! entries, calls, making -/
def loE : List Value → List (Option Value)
  | [] => []
  | v :: t => if v.category = 2 then some v :: none :: loE t else some v :: loE t
theorem loE_spec (g : GT) : ∀ (as : List Value) (k i : Nat) (v : Value), (loE as)[i]? = some (some v) → (k + i, trV g v) ∈ lv_args k (as.map (trV g))
  | [], k, i, v, h => by simp [loE] at h
  | a :: t, k, i, v, h => by
    rw [List.map_cons, lv_args, trV_cat]
    by_cases hc : a.category = 2
    · simp only [loE, if_pos hc] at h ⊢
      match i with
      | 0 => simp at h; subst h; exact List.mem_cons_self
      | 1 => simp at h
      | i + 2 =>
        simp at h
        have := loE_spec g t (k + 2) i v (by simpa using h)
        rw [show k + (i + 2) = k + 2 + i by omega]
        exact List.mem_cons_of_mem _ this
    · simp only [loE, if_neg hc] at h ⊢
      match i with
      | 0 => simp at h; subst h; exact List.mem_cons_self
      | i + 1 =>
        simp at h
        have := loE_spec g t (k + 1) i v (by simpa using h)
        rw [show k + (i + 1) = k + 1 + i by omega]
        exact List.mem_cons_of_mem _ this
theorem loE_len (g : GT) : ∀ (as : List Value), (lg_sl (as.map (trV g))).length = (loE as).length
  | [] => rfl
  | a :: t => by
    have ih := loE_len g t
    unfold lg_sl at ih ⊢
    rw [List.map_cons, List.flatMap_cons, List.length_append, ih, trV_cat]
    by_cases hc : a.category = 2
    · simp [loE, hc]; omega
    · simp [loE, hc]; omega
section PWC
variable {g : GT} {l : Launch} {M : MD} {d kc ks pc : Nat} {lo : List (Option Value)} {st : List Value} {h : Hp} {Q : Option Value → Hp → Prop}
theorem PcOf.blind {as : List Value} : FrameBlind (PcOf g as h) := fun a U gg mk q => ⟨q.1, q.2.1, KX.same (U := U) (V := U.calling gg mk a) rfl rfl q.2.2⟩
/-- a method's contract out of its walk -/
theorem pm_of {y : MethodName} {as : List Value} {ws' : List Cond} (hy : plainName y.cls = true) (hw : M.2.2.2.1 = Cond.code y M.1 M.2.2.2.2.1 M.2.2.2.2.2 :: ws') (hcls : M.2.1 = y.cls) (hnm : M.2.2.1 = y.name) (hlen : (loE as).length ≤ M.2.2.2.2.1) (hlo : loE as ++ List.replicate (M.2.2.2.2.1 - (loE as).length) none = lo) (k : PW g l M d kc ks 0 lo [] h Q) : PM g l d kc ks y M.2.2.2.1 as h Q := by
  refine Met.ofW (cc := M.1) (maxL := M.2.2.2.2.1) (ret := M.2.2.2.2.2) hy hw ?_
  intro p e s m args below meth c s₁ B hml hv
  obtain ⟨rfl, hR, hK⟩ := hv
  have hown : s.vm.findClass y.cls = some m.cls := findClass_of_methodNamed B.named
  have hC : CX g M p s m (as.map (trV g)).toArray meth c := ⟨B.exec, B.bytes, hml, by rw [hcls]; exact hown, atoms_spec (ws := M.2.2.2.1) B.pre, hK, B.returns, B.notSynchronized, by rw [hnm]; exact (name_of_methodNamed B.named B.method).1⟩
  have hl := lv_entry (as.map (trV g)) (n := M.2.2.2.2.1) (by rw [loE_len]; exact hlen)
  rw [lg_entry_eq]
  generalize (lg_sl (as.map (trV g)) ++ List.replicate (M.2.2.2.2.1 - (lg_sl (as.map (trV g))).length) Slot.unset).toArray = ls at hl ⊢
  have hlR : lvR g ls M.2.2.2.2.1 lo := ⟨hl.1, hl.2.1, fun i v hi => by
    rw [← hlo] at hi
    by_cases hi2 : i < (loE as).length
    · rw [List.getElem?_append_left hi2] at hi
      have := loE_spec g as 0 i v hi
      rw [Nat.zero_add] at this
      exact hl.2.2 _ this
    · rw [List.getElem?_append_right (by omega), List.getElem?_replicate] at hi
      split at hi
      · cases hi
      · cases hi⟩
  have hz : g.1 ≤ s.heap.size := by rw [hR.1]; exact Nat.le_add_right _ _
  have := k p e (headSpec M.2.2.2.1 { frames := d, cells := kc, slots := ks, locals := 40 * d }).room s m (as.map (trV g)).toArray below meth c s.heap [] 0 0 ls hC ⟨Nat.le_refl _, Nat.le_refl _, by rw [Nat.zero_add]; exact Nat.le_refl _, by rw [Nat.zero_add]; exact Nat.le_refl _⟩ hlR hR va_S.rf hz
  rw [Nat.zero_add, Nat.zero_add] at this
  exact this
theorem pw_run {p : Program} {e : Env} {R : Room} {s : State} {m : MethodId} {args : Array Value} {below : List Frame} {meth : Method} {c : Code} {H : Heap} {locs : List Loc} {cells slots : Nat} {ls : Array Slot} {mc ms : Nat} {st0 rest : List Value} {a : Array Value} {Q' : Option Value → Hp → Prop} {Qz : State → Prop} (hr : va_Run p l e R s m args below meth c H locs cells slots mc ms (F0 m pc ls st0) rest (QcOf g Q' a) (fun q => g.1 ≤ q)) (hS : va_S (fun q => g.1 ≤ q) s.heap H locs)
    (kk : ∀ (r : Option Value) (h' : Hp) (H1 : Heap) (locs1 : List Loc), Q' r h' → REL g h' H1 → va_S (fun q => g.1 ≤ q) s.heap H1 locs1 → W p l e R s m args below meth c H1 locs1 (cells + mc) (slots + ms) Qz (F0 m (pc + 3) ls ((r.map (trV g)).toList ++ rest))) : W p l e R s m args below meth c H locs cells slots Qz (F0 m pc ls st0) := by
  intro T hT X
  obtain ⟨v, st₀, t, T', L, h0, X', hL, e1, e2, ⟨⟨r, h', hv, hq, hR1⟩, hz, hk⟩, st⟩ := hr T hT X
  have hv' : v = r.map (trV g) := by cases hv; rfl
  subst hv'
  rw [h0] at hz hk
  obtain ⟨t2, a1, b1⟩ := kk r h' T'.heap (locs ++ L) hq (by rw [e1]; exact hR1)
    ⟨Nat.le_trans hS.1 (by rw [e1]; exact hz), fun q h1 h2 => by rw [e1, hk q (Nat.lt_of_lt_of_le h1 hS.1) h2]; exact hS.2.1 q h1 h2, fun q hq => by
      rcases List.mem_append.mp hq with h | h
      · exact hS.2.2 q h
      · exact hL q h⟩ T' rfl X'
  exact ⟨t2, st t2 a1, b1⟩
theorem map_rest (r : Option Value) (rest : List Value) : (r.toList ++ rest).map (trV g) = (r.map (trV g)).toList ++ rest.map (trV g) := by cases r <;> simp
theorem sum_cat (rest : List Value) : ((rest.map (trV g)).map fun v => v.category).sum = (rest.map fun v => v.category).sum := by
  rw [List.map_map]
  congr 1
  apply List.map_congr_left
  intro v _
  exact trV_cat g v
/-- what goes on behind a call -/
theorem pw_back {p : Program} {e : Env} {R : Room} {s : State} {m : MethodId} {args : Array Value} {below : List Frame} {meth : Method} {c : Code} {H1 : Heap} {locs1 : List Loc} {cells slots : Nat} {ls : Array Slot} {kc' ks' kc2 ks2 : Nat} {r : Option Value} {rest : List Value} {h' : Hp} (hcap : kc = kc' + kc2 ∧ ks = ks' + ks2) (C : CX g M p s m args meth c) (hr : d ≤ R.frames ∧ 40 * d ≤ R.locals ∧ cells + kc ≤ R.cells ∧ slots + ks ≤ R.slots) (hl : lvR g ls M.2.2.2.2.1 lo) (hR1 : REL g h' H1) (hS1 : va_S (fun q => g.1 ≤ q) s.heap H1 locs1) (hz : g.1 ≤ s.heap.size) (kk : PW g l M d kc2 ks2 pc lo (r.toList ++ rest) h' Q) : W p l e R s m args below meth c H1 locs1 (cells + kc') (slots + ks') (MQ below (QcOf g Q) args s (cells + kc) (slots + ks) (fun q => g.1 ≤ q)) (F0 m pc ls ((r.map (trV g)).toList ++ rest.map (trV g))) := by
  obtain ⟨rfl, rfl⟩ := hcap
  have := kk p e R s m args below meth c H1 locs1 (cells + kc') (slots + ks') ls C ⟨hr.1, hr.2.1, by omega, by omega⟩ hl hR1 hS1 hz
  rw [map_rest, Nat.add_assoc, Nat.add_assoc] at this
  exact this
theorem room_ok {R : Room} {d' maxL cells slots : Nat} (hdep : d' + 1 ≤ d ∧ maxL ≤ 21) (hr : d ≤ R.frames ∧ 40 * d ≤ R.locals ∧ cells + kc ≤ R.cells ∧ slots + ks ≤ R.slots) : d' + 1 ≤ R.frames ∧ 8 + (maxL + 11) + 40 * d' ≤ R.locals := ⟨by omega, by omega⟩
theorem pw_callV {y : MethodName} {C : String} {T : u_T} {N ci i n maxL d' kc' ks' kc2 ks2 b : Nat} {bytes : ByteArray} {ret : Option FieldType} {ws' ws'' : List Cond} {as rest st0 : List Value} {fs : List Value} {Q' : Option Value → Hp → Prop} (hM : PM g l d' kc' ks' y ws' (.ref b :: as) h Q') (hG : GoodIn M.2.2.2.1 (wsV M.2.1 i C y ws')) (hw : ws' = Cond.code y bytes maxL ret :: ws'') (hd : y.cls = C ∧ y.cls ≠ "java/lang/invoke/MethodHandle" ∧ y.cls ≠ "java/lang/invoke/VarHandle" ∧ (parseMethodDescriptor y.desc).map (fun d => d.parameters.length) = some n) (hn : as.length = n) (hb : h.2 b = some (.inr (ci, fs))) (hc : vwCl[ci]? = some (C, T, N)) (hdep : d' + 1 ≤ d ∧ maxL ≤ 21) (hcap : kc = kc' + kc2 ∧ ks = ks' + ks2) (hrest : (rest.map fun v => v.category).sum ≤ 8) (hdg : decode M.1 pc = .ok (.invokevirtual i, 3)) (hst : st0 = as.reverse ++ .ref b :: rest) (kk : ∀ r h', Q' r h' → PW g l M d kc2 ks2 (pc + 3) lo (r.toList ++ rest) h' Q) : PW g l M d kc ks pc lo st0 h Q := by
  subst hst
  intro p e R s m args below meth c H locs cells slots ls C9 hr hl hR hS hz
  refine pw_run (va_runV (As := as.map (trV g)) (rest := rest.map (trV g)) (b := g.1 + b) ⟨C9.1, C9.2.1, C9.2.2.1, C9.2.2.2.1, C9.2.2.2.2.1⟩ hM (cwV n C9.2.2.2.2.1 hG hw rfl rfl hd (room_ok hdep hr)) ⟨PcOf.blind, va_recv C9.2.2.2.2.2.1.1 (hR.one hb) (q0 := 0) hc rfl, fun U hU hW => ⟨rfl, by rw [hU]; exact hR, KX.moved hW (fun a h1 h2 => by rw [hU]; exact hS.2.1 a h1 h2) C9.2.2.2.2.2.1⟩⟩ rfl (by rw [List.length_map]; exact hn) hl.1 (by show List.map (trV g) _ = _; rw [List.map_append, List.map_reverse]; rfl) (by rw [sum_cat]; show 2 * 0 + _ ≤ 8; omega) hdg ⟨by omega, by omega⟩) hS fun r h' H1 locs1 hq hR1 hS1 => pw_back hcap C9 hr hl hR1 hS1 hz (kk r h' hq)
theorem pw_callS {y : MethodName} {i n maxL d' kc' ks' kc2 ks2 : Nat} {bytes : ByteArray} {ret : Option FieldType} {ws' ws'' : List Cond} {as rest st0 : List Value} {Q' : Option Value → Hp → Prop} (hM : PM g l d' kc' ks' y ws' as h Q') (hG : GoodIn M.2.2.2.1 (va_wsS M.2.1 i y ws')) (hw : ws' = Cond.code y bytes maxL ret :: ws'') (hd : y.cls ≠ "java/lang/invoke/MethodHandle" ∧ y.cls ≠ "java/lang/invoke/VarHandle" ∧ (parseMethodDescriptor y.desc).map (fun d => d.parameters.length) = some n) (hn : as.length = n) (hdep : d' + 1 ≤ d ∧ maxL ≤ 21) (hcap : kc = kc' + kc2 ∧ ks = ks' + ks2) (hrest : (rest.map fun v => v.category).sum ≤ 8) (hdg : decode M.1 pc = .ok (.invokestatic i, 3)) (hst : st0 = as.reverse ++ rest) (kk : ∀ r h', Q' r h' → PW g l M d kc2 ks2 (pc + 3) lo (r.toList ++ rest) h' Q) : PW g l M d kc ks pc lo st0 h Q := by
  subst hst
  intro p e R s m args below meth c H locs cells slots ls C9 hr hl hR hS hz
  refine pw_run (va_runS (As := as.map (trV g)) (rest := rest.map (trV g)) ⟨C9.1, C9.2.1, C9.2.2.1, C9.2.2.2.1, C9.2.2.2.2.1⟩ hM (va_cwS n C9.2.2.2.2.1 hG hw rfl rfl hd (room_ok hdep hr)) ⟨PcOf.blind, fun U hU hW => ⟨rfl, by rw [hU]; exact hR, KX.moved hW (fun a h1 h2 => by rw [hU]; exact hS.2.1 a h1 h2) C9.2.2.2.2.2.1⟩⟩ rfl (by rw [List.length_map]; exact hn) hl.1 (by show List.map (trV g) _ = _; rw [List.map_append, List.map_reverse]) (by rw [sum_cat]; show 2 * 0 + _ ≤ 8; omega) hdg ⟨by omega, by omega⟩) hS fun r h' H1 locs1 hq hR1 hS1 => pw_back hcap C9 hr hl hR1 hS1 hz (kk r h' hq)
/-- a private static method of a nest mate -/
theorem pw_callSN {y : MethodName} {host : String} {i n maxL d' kc' ks' kc2 ks2 : Nat} {bytes : ByteArray} {ret : Option FieldType} {ws' ws'' : List Cond} {as rest st0 : List Value} {Q' : Option Value → Hp → Prop} (hM : PM g l d' kc' ks' y ws' as h Q') (hG : GoodIn M.2.2.2.1 ws') (hlk : Cond.methodLinkNest M.2.1 i y host ∈ nestW) (hini : Cond.initialized y.cls ∈ M.2.2.2.1) (hsta : Cond.static y ∈ M.2.2.2.1) (hw : ws' = Cond.code y bytes maxL ret :: ws'') (hd : y.cls ≠ "java/lang/invoke/MethodHandle" ∧ y.cls ≠ "java/lang/invoke/VarHandle" ∧ (parseMethodDescriptor y.desc).map (fun d => d.parameters.length) = some n) (hn : as.length = n) (hdep : d' + 1 ≤ d ∧ maxL ≤ 21) (hcap : kc = kc' + kc2 ∧ ks = ks' + ks2) (hrest : (rest.map fun v => v.category).sum ≤ 8) (hdg : decode M.1 pc = .ok (.invokestatic i, 3)) (hst : st0 = as.reverse ++ rest) (kk : ∀ r h', Q' r h' → PW g l M d kc2 ks2 (pc + 3) lo (r.toList ++ rest) h' Q) : PW g l M d kc ks pc lo st0 h Q := by
  subst hst
  intro p e R s m args below meth c H locs cells slots ls C9 hr hl hR hS hz
  refine pw_run (va_runSN (As := as.map (trV g)) (rest := rest.map (trV g)) ⟨C9.1, C9.2.1, C9.2.2.1, C9.2.2.2.1, C9.2.2.2.2.1⟩ hM ⟨va_cnB n C9.2.2.2.2.1 hG hw rfl rfl (C9.2.2.2.2.2.1.2.2.1 _ hlk) (C9.2.2.2.2.1 _ hini) hd (room_ok hdep hr), C9.2.2.2.2.1 _ hsta, trivial⟩ ⟨PcOf.blind, fun U hU hW => ⟨rfl, by rw [hU]; exact hR, KX.moved hW (fun a h1 h2 => by rw [hU]; exact hS.2.1 a h1 h2) C9.2.2.2.2.2.1⟩⟩ rfl (by rw [List.length_map]; exact hn) hl.1 (by show List.map (trV g) _ = _; rw [List.map_append, List.map_reverse]) (by rw [sum_cat]; show 2 * 0 + _ ≤ 8; omega) hdg ⟨by omega, by omega⟩) hS fun r h' H1 locs1 hq hR1 hS1 => pw_back hcap C9 hr hl hR1 hS1 hz (kk r h' hq)
theorem pw_callI {y : MethodName} {i n maxL d' kc' ks' kc2 ks2 b : Nat} {bytes : ByteArray} {ws' ws'' : List Cond} {as rest st0 : List Value} {Q' : Option Value → Hp → Prop} (hM : PM g l d' kc' ks' y ws' (.ref b :: as) h Q') (hG : GoodIn M.2.2.2.1 ws') (hlk : Cond.methodLink M.2.1 i y ∈ M.2.2.2.1) (hini : Cond.initialized y.cls ∈ M.2.2.2.1) (hinst : Cond.instanceMethod y ∈ M.2.2.2.1) (hy1 : y.name = "<init>") (hw : ws' = Cond.code y bytes maxL none :: ws'') (hd : y.cls ≠ "java/lang/invoke/MethodHandle" ∧ y.cls ≠ "java/lang/invoke/VarHandle" ∧ (parseMethodDescriptor y.desc).map (fun d => d.parameters.length) = some n) (hn : as.length = n) (hdep : d' + 1 ≤ d ∧ maxL ≤ 21) (hcap : kc = kc' + kc2 ∧ ks = ks' + ks2) (hrest : (rest.map fun v => v.category).sum ≤ 8) (hdg : decode M.1 pc = .ok (.invokespecial i, 3)) (hst : st0 = as.reverse ++ .ref b :: rest) (kk : ∀ r h', Q' r h' → PW g l M d kc2 ks2 (pc + 3) lo (r.toList ++ rest) h' Q) : PW g l M d kc ks pc lo st0 h Q := by
  subst hst
  intro p e R s m args below meth c H locs cells slots ls C9 hr hl hR hS hz
  refine pw_run (va_runI (As := as.map (trV g)) (rest := rest.map (trV g)) (b := g.1 + b) ⟨C9.1, C9.2.1, C9.2.2.1, C9.2.2.2.1, C9.2.2.2.2.1⟩ hM (cwI n C9.2.2.2.2.1 hG hw rfl rfl (C9.2.2.2.2.1 _ hini) (C9.2.2.2.2.1 _ hlk) (C9.2.2.2.2.1 _ hinst) hy1 hd (room_ok hdep hr)) ⟨PcOf.blind, fun U hU hW => ⟨rfl, by rw [hU]; exact hR, KX.moved hW (fun a h1 h2 => by rw [hU]; exact hS.2.1 a h1 h2) C9.2.2.2.2.2.1⟩⟩ rfl (by rw [List.length_map]; exact hn) hl.1 (by show List.map (trV g) _ = _; rw [List.map_append, List.map_reverse]; rfl) (by rw [sum_cat]; show 2 * 0 + _ ≤ 8; omega) hdg ⟨by omega, by omega⟩) hS fun r h' H1 locs1 hq hR1 hS1 => pw_back hcap C9 hr hl hR1 hS1 hz (kk r h' hq)
theorem pw_callIN {y : MethodName} {host : String} {i n maxL d' kc' ks' kc2 ks2 b : Nat} {bytes : ByteArray} {ws' ws'' : List Cond} {as rest st0 : List Value} {Q' : Option Value → Hp → Prop} (hM : PM g l d' kc' ks' y ws' (.ref b :: as) h Q') (hG : GoodIn M.2.2.2.1 ws') (hlk : Cond.methodLinkNest M.2.1 i y host ∈ nestW) (hini : Cond.initialized y.cls ∈ M.2.2.2.1) (hinst : Cond.instanceMethod y ∈ M.2.2.2.1) (hy1 : y.name = "<init>") (hw : ws' = Cond.code y bytes maxL none :: ws'') (hd : y.cls ≠ "java/lang/invoke/MethodHandle" ∧ y.cls ≠ "java/lang/invoke/VarHandle" ∧ (parseMethodDescriptor y.desc).map (fun d => d.parameters.length) = some n) (hn : as.length = n) (hdep : d' + 1 ≤ d ∧ maxL ≤ 21) (hcap : kc = kc' + kc2 ∧ ks = ks' + ks2) (hrest : (rest.map fun v => v.category).sum ≤ 8) (hdg : decode M.1 pc = .ok (.invokespecial i, 3)) (hst : st0 = as.reverse ++ .ref b :: rest) (kk : ∀ r h', Q' r h' → PW g l M d kc2 ks2 (pc + 3) lo (r.toList ++ rest) h' Q) : PW g l M d kc ks pc lo st0 h Q := by
  subst hst
  intro p e R s m args below meth c H locs cells slots ls C9 hr hl hR hS hz
  refine pw_run (va_runIN (As := as.map (trV g)) (rest := rest.map (trV g)) (b := g.1 + b) ⟨C9.1, C9.2.1, C9.2.2.1, C9.2.2.2.1, C9.2.2.2.2.1⟩ hM ⟨va_cnB n C9.2.2.2.2.1 hG hw rfl rfl (C9.2.2.2.2.2.1.2.2.1 _ hlk) (C9.2.2.2.2.1 _ hini) hd (room_ok hdep hr), hy1, C9.2.2.2.2.1 _ hinst⟩ ⟨PcOf.blind, fun U hU hW => ⟨rfl, by rw [hU]; exact hR, KX.moved hW (fun a h1 h2 => by rw [hU]; exact hS.2.1 a h1 h2) C9.2.2.2.2.2.1⟩⟩ rfl (by rw [List.length_map]; exact hn) hl.1 (by show List.map (trV g) _ = _; rw [List.map_append, List.map_reverse]; rfl) (by rw [sum_cat]; show 2 * 0 + _ ≤ 8; omega) hdg ⟨by omega, by omega⟩) hS fun r h' H1 locs1 hq hR1 hS1 => pw_back hcap C9 hr hl hR1 hS1 hz (kk r h' hq)
/-- Object.<init> -/
theorem pw_obj {i a : Nat} (hlk : Cond.methodLink M.2.1 i objectInit ∈ M.2.2.2.1) (hinst : Cond.instanceMethod objectInit ∈ M.2.2.2.1) (hcode : Cond.code objectInit ⟨#[0xb1]⟩ 1 none ∈ M.2.2.2.1) (hdep : 1 ≤ d) (hrest : (st.map fun v => v.category).sum ≤ 8) (hdg : decode M.1 pc = .ok (.invokespecial i, 3)) (k : PW g l M d kc ks (pc + 3) lo st h Q) : PW g l M d kc ks pc lo (.ref a :: st) h Q := fun p e R s m args below meth c H locs cells slots ls C hr hl hR hS hz =>
  W.objInit (a := g.1 + a) (rest := st.map (trV g)) C.1 C.2.1 C.2.2.2.1 (C.2.2.2.2.1 _ hlk) (C.2.2.2.2.1 _ hinst) (C.2.2.2.2.1 _ hcode) rfl (hl.1.trans C.2.2.1.symm) rfl hdg (by omega) (by rw [sum_cat]; show 2 * 0 + _ + 12 ≤ R.locals; omega) (k p e R s m args below meth c H locs cells slots ls C hr hl hR hS hz)
theorem pw_min {i : Nat} {x y : Int32} (hlk : Cond.methodLink M.2.1 i Lib.Math.min.name ∈ M.2.2.2.1) (hsta : Cond.static Lib.Math.min.name ∈ M.2.2.2.1) (hini : Cond.initialized "java/lang/Math" ∈ M.2.2.2.1) (hcode : Cond.code Lib.Math.min.name Lib.Math.min.code 2 (some .int) ∈ M.2.2.2.1) (hdep : 1 ≤ d) (hrest : (st.map fun v => v.category).sum ≤ 8) (hdg : decode M.1 pc = .ok (.invokestatic i, 3)) (k : PW g l M d kc ks (pc + 3) lo (.int (if y < x then y else x) :: st) h Q) : PW g l M d kc ks pc lo (.int y :: .int x :: st) h Q := fun p e R s m args below meth c H locs cells slots ls C hr hl hR hS hz =>
  va_mmin C.1 C.2.1 (C.2.2.1.trans hl.1.symm) C.2.2.2.1 (C.2.2.2.2.1 _ hlk) (C.2.2.2.2.1 _ hsta) (C.2.2.2.2.1 _ hini) (C.2.2.2.2.1 _ hcode) (by omega) (by rw [sum_cat]; omega) (by omega) (by omega) hdg (k p e R s m args below meth c H locs cells slots ls C hr hl hR hS hz)
theorem pw_max {i : Nat} {x y : Int32} (hlk : Cond.methodLink M.2.1 i Lib.Math.max.name ∈ M.2.2.2.1) (hsta : Cond.static Lib.Math.max.name ∈ M.2.2.2.1) (hini : Cond.initialized "java/lang/Math" ∈ M.2.2.2.1) (hcode : Cond.code Lib.Math.max.name Lib.Math.max.code 2 (some .int) ∈ M.2.2.2.1) (hdep : 1 ≤ d) (hrest : (st.map fun v => v.category).sum ≤ 8) (hdg : decode M.1 pc = .ok (.invokestatic i, 3)) (k : PW g l M d kc ks (pc + 3) lo (.int (if x < y then y else x) :: st) h Q) : PW g l M d kc ks pc lo (.int y :: .int x :: st) h Q := fun p e R s m args below meth c H locs cells slots ls C hr hl hR hS hz =>
  va_mmax C.1 C.2.1 (C.2.2.1.trans hl.1.symm) C.2.2.2.1 (C.2.2.2.2.1 _ hlk) (C.2.2.2.2.1 _ hsta) (C.2.2.2.2.1 _ hini) (C.2.2.2.2.1 _ hcode) (by omega) (by rw [sum_cat]; omega) (by omega) (by omega) hdg (k p e R s m args below meth c H locs cells slots ls C hr hl hR hS hz)
end PWC
