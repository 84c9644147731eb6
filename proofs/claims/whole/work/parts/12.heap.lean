/-! what is read and written in the heap -/
def gI (h : Hp) (a ci k : Nat) : Option Int32 := match h.2 a with
  | some (.inr (c, fs)) => if c = ci then (match fs[k]? with
    | some (.int x) => some x
    | _ => none) else none
  | _ => none
def gL (h : Hp) (a ci k : Nat) : Option Int64 := match h.2 a with
  | some (.inr (c, fs)) => if c = ci then (match fs[k]? with
    | some (.long x) => some x
    | _ => none) else none
  | _ => none
def gR (h : Hp) (a ci k : Nat) : Option Nat := match h.2 a with
  | some (.inr (c, fs)) => if c = ci then (match fs[k]? with
    | some (.ref x) => some x
    | _ => none) else none
  | _ => none
def pV (h : Hp) (a ci k : Nat) (v : Value) : Option Hp := match h.2 a with
  | some (.inr (c, fs)) => if c = ci ∧ k < fs.length then some (hset h a (.inr (ci, fs.set k v))) else none
  | _ => none
def aI (h : Hp) (kd a : Nat) (i : Int32) : Option Int32 := match h.2 a with
  | some (.inl (k, n, .inl f)) => if k = kd ∧ ¬ (i < 0 ∨ n ≤ i.toNatClampNeg) then some (f i.toNatClampNeg) else none
  | _ => none
def aL (h : Hp) (a : Nat) (i : Int32) : Option Int64 := match h.2 a with
  | some (.inl (k, n, .inr (.inl f))) => if k = 2 ∧ ¬ (i < 0 ∨ n ≤ i.toNatClampNeg) then some (f i.toNatClampNeg) else none
  | _ => none
def aQ (h : Hp) (kd a : Nat) (i : Int32) : Option (Option Nat) := match h.2 a with
  | some (.inl (k, n, .inr (.inr (.inr (.inr f))))) => if k = kd ∧ ¬ (i < 0 ∨ n ≤ i.toNatClampNeg) then some (f i.toNatClampNeg) else none
  | _ => none
def aN (h : Hp) (a : Nat) : Option Int32 := match h.2 a with
  | some (.inl (k, n, _)) => if k < 6 then some (Int32.ofNat n) else none
  | _ => none
def sI (h : Hp) (kd a : Nat) (i x : Int32) : Option Hp := match h.2 a with
  | some (.inl (k, n, .inl f)) => if k = kd ∧ ¬ (i < 0 ∨ n ≤ i.toNatClampNeg) then some (hset h a (.inl (kd, n, .inl (upd f i.toNatClampNeg x)))) else none
  | _ => none
def sL (h : Hp) (a : Nat) (i : Int32) (x : Int64) : Option Hp := match h.2 a with
  | some (.inl (k, n, .inr (.inl f))) => if k = 2 ∧ ¬ (i < 0 ∨ n ≤ i.toNatClampNeg) then some (hset h a (.inl (2, n, .inr (.inl (vp_updL f i.toNatClampNeg x))))) else none
  | _ => none
theorem gI_spec {h : Hp} {a ci k : Nat} {x : Int32} (q : gI h a ci k = some x) : ∃ fs, h.2 a = some (.inr (ci, fs)) ∧ fs[k]? = some (.int x) := by
  unfold gI at q
  split at q
  · split at q
    · split at q
      · rename_i c fs e1 e2 _ y e3
        cases q; subst e2; exact ⟨_, e1, e3⟩
      · cases q
    · cases q
  · cases q
theorem gL_spec {h : Hp} {a ci k : Nat} {x : Int64} (q : gL h a ci k = some x) : ∃ fs, h.2 a = some (.inr (ci, fs)) ∧ fs[k]? = some (.long x) := by
  unfold gL at q
  split at q
  · split at q
    · split at q
      · rename_i c fs e1 e2 _ y e3
        cases q; subst e2; exact ⟨_, e1, e3⟩
      · cases q
    · cases q
  · cases q
theorem gR_spec {h : Hp} {a ci k : Nat} {x : Nat} (q : gR h a ci k = some x) : ∃ fs, h.2 a = some (.inr (ci, fs)) ∧ fs[k]? = some (.ref x) := by
  unfold gR at q
  split at q
  · split at q
    · split at q
      · rename_i c fs e1 e2 _ y e3
        cases q; subst e2; exact ⟨_, e1, e3⟩
      · cases q
    · cases q
  · cases q
theorem pV_spec {h h' : Hp} {a ci k : Nat} {v : Value} (q : pV h a ci k v = some h') : ∃ fs, h.2 a = some (.inr (ci, fs)) ∧ k < fs.length ∧ h' = hset h a (.inr (ci, fs.set k v)) := by
  unfold pV at q
  split at q
  · split at q
    · rename_i c fs e1 e2
      cases q; obtain ⟨e2, e3⟩ := e2; subst e2; exact ⟨_, e1, e3, rfl⟩
    · cases q
  · cases q
theorem aI_spec {h : Hp} {kd a : Nat} {i x : Int32} (q : aI h kd a i = some x) : ∃ n f, h.2 a = some (.inl (kd, n, .inl f)) ∧ vp_in i n ∧ f i.toNatClampNeg = x := by
  unfold aI at q
  split at q
  · split at q
    · rename_i k n f e1 e2
      cases q; obtain ⟨e2, e3⟩ := e2; subst e2; exact ⟨_, _, e1, e3, rfl⟩
    · cases q
  · cases q
theorem aL_spec {h : Hp} {a : Nat} {i : Int32} {x : Int64} (q : aL h a i = some x) : ∃ n f, h.2 a = some (.inl (2, n, .inr (.inl f))) ∧ vp_in i n ∧ f i.toNatClampNeg = x := by
  unfold aL at q
  split at q
  · split at q
    · rename_i k n f e1 e2
      cases q; obtain ⟨e2, e3⟩ := e2; subst e2; exact ⟨_, _, e1, e3, rfl⟩
    · cases q
  · cases q
theorem aQ_spec {h : Hp} {kd a : Nat} {i : Int32} {x : Option Nat} (q : aQ h kd a i = some x) : ∃ n f, h.2 a = some (.inl (kd, n, .inr (.inr (.inr (.inr f))))) ∧ vp_in i n ∧ f i.toNatClampNeg = x := by
  unfold aQ at q
  split at q
  · split at q
    · rename_i k n f e1 e2
      cases q; obtain ⟨e2, e3⟩ := e2; subst e2; exact ⟨_, _, e1, e3, rfl⟩
    · cases q
  · cases q
theorem aN_spec {h : Hp} {a : Nat} {x : Int32} (q : aN h a = some x) : ∃ k n c, h.2 a = some (.inl (k, n, c)) ∧ k < 6 ∧ Int32.ofNat n = x := by
  unfold aN at q
  split at q
  · split at q
    · rename_i k n c e1 e2
      cases q; exact ⟨_, _, _, e1, e2, rfl⟩
    · cases q
  · cases q
theorem sI_spec {h h' : Hp} {kd a : Nat} {i x : Int32} (q : sI h kd a i x = some h') : ∃ n f, h.2 a = some (.inl (kd, n, .inl f)) ∧ vp_in i n ∧ h' = hset h a (.inl (kd, n, .inl (upd f i.toNatClampNeg x))) := by
  unfold sI at q
  split at q
  · split at q
    · rename_i k n f e1 e2
      cases q; obtain ⟨e2, e3⟩ := e2; subst e2; exact ⟨_, _, e1, e3, rfl⟩
    · cases q
  · cases q
theorem sL_spec {h h' : Hp} {a : Nat} {i : Int32} {x : Int64} (q : sL h a i x = some h') : ∃ n f, h.2 a = some (.inl (2, n, .inr (.inl f))) ∧ vp_in i n ∧ h' = hset h a (.inl (2, n, .inr (.inl (vp_updL f i.toNatClampNeg x)))) := by
  unfold sL at q
  split at q
  · split at q
    · rename_i k n f e1 e2
      cases q; obtain ⟨e2, e3⟩ := e2; subst e2; exact ⟨_, _, e1, e3, rfl⟩
    · cases q
  · cases q
/-- one cell of the heap, as a world -/
theorem REL.one {g : GT} {h : Hp} {H : Heap} {a : Nat} {e : PE} (hR : REL g h H) (ha : h.2 a = some e) : va_P g.2.1 vwCl [(g.1 + a, trE g e)] H := by
  intro k q hk
  have hz : k < 1 := (List.getElem?_eq_some_iff.mp hk).1
  rw [show k = 0 by omega] at hk
  cases hk
  exact hR.2 a e ha
section PWH
variable {g : GT} {l : Launch} {M : MD} {d kc ks pc : Nat} {lo : List (Option Value)} {st : List Value} {h : Hp} {Q : Option Value → Hp → Prop}
theorem pw_getV {a ci k N i : Nat} {C : String} {T : u_T} {fs : List Value} {v : Value} (hc : vwCl[ci]? = some (C, T, N)) (hk : k < N) (hin : ∀ w ∈ u_ws C T N, w ∈ M.2.2.2.1) (hlk : Cond.fieldLink M.2.1 i (T k).1 (T k).2.1 (T k).2.2.1 ∈ M.2.2.2.1) (ha : h.2 a = some (.inr (ci, fs))) (hv : fs[k]? = some v) (hdg : decode M.1 pc = .ok (.getfield i, 3)) (kk : PW g l M d kc ks (pc + 3) lo (v :: st) h Q) : PW g l M d kc ks pc lo (.ref a :: st) h Q := fun p e R s m args below meth c H locs cells slots ls C hr hl hR hS hz =>
  va_get (v := trV g v) C.1 C.2.1 C.2.2.2.2.1 hin C.2.2.2.1 C.2.2.2.2.2.1.1 (hR.one ha) 0 rfl hc k hk (C.2.2.2.2.1 _ hlk) (fun _ h9 => h9) (by rw [List.getElem?_map, hv]; rfl) hdg (kk p e R s m args below meth c H locs cells slots ls C hr hl hR hS hz)
theorem pw_getVN {a ci k N i : Nat} {C host : String} {T : u_T} {fs : List Value} {v : Value} (hc : vwCl[ci]? = some (C, T, N)) (hk : k < N) (hin : ∀ w ∈ u_ws C T N, w ∈ M.2.2.2.1) (hlk : Cond.fieldLinkNest M.2.1 i (T k).1 (T k).2.1 (T k).2.2.1 host ∈ nestW) (ha : h.2 a = some (.inr (ci, fs))) (hv : fs[k]? = some v) (hdg : decode M.1 pc = .ok (.getfield i, 3)) (kk : PW g l M d kc ks (pc + 3) lo (v :: st) h Q) : PW g l M d kc ks pc lo (.ref a :: st) h Q := fun p e R s m args below meth c H locs cells slots ls C hr hl hR hS hz =>
  va_getN (v := trV g v) C.1 C.2.1 C.2.2.2.2.1 hin C.2.2.2.1 C.2.2.2.2.2.1.1 (hR.one ha) 0 rfl hc k hk (va_Nw.use rfl (C.2.2.2.2.2.1.2.2.1 _ hlk)) (fun _ h9 => h9) (by rw [List.getElem?_map, hv]; rfl) hdg (kk p e R s m args below meth c H locs cells slots ls C hr hl hR hS hz)
theorem pw_gI {a ci k N i : Nat} {C : String} {T : u_T} {x : Int32} (ha : gI h a ci k = some x) (hc : vwCl[ci]? = some (C, T, N)) (hk : k < N) (hin : ∀ w ∈ u_ws C T N, w ∈ M.2.2.2.1) (hlk : Cond.fieldLink M.2.1 i (T k).1 (T k).2.1 (T k).2.2.1 ∈ M.2.2.2.1) (hdg : decode M.1 pc = .ok (.getfield i, 3)) (kk : PW g l M d kc ks (pc + 3) lo (.int x :: st) h Q) : PW g l M d kc ks pc lo (.ref a :: st) h Q := by
  obtain ⟨fs, h1, h2⟩ := gI_spec ha
  exact pw_getV hc hk hin hlk h1 h2 hdg kk
theorem pw_gL {a ci k N i : Nat} {C : String} {T : u_T} {x : Int64} (ha : gL h a ci k = some x) (hc : vwCl[ci]? = some (C, T, N)) (hk : k < N) (hin : ∀ w ∈ u_ws C T N, w ∈ M.2.2.2.1) (hlk : Cond.fieldLink M.2.1 i (T k).1 (T k).2.1 (T k).2.2.1 ∈ M.2.2.2.1) (hdg : decode M.1 pc = .ok (.getfield i, 3)) (kk : PW g l M d kc ks (pc + 3) lo (.long x :: st) h Q) : PW g l M d kc ks pc lo (.ref a :: st) h Q := by
  obtain ⟨fs, h1, h2⟩ := gL_spec ha
  exact pw_getV hc hk hin hlk h1 h2 hdg kk
theorem pw_gR {a ci k N i : Nat} {C : String} {T : u_T} {x : Nat} (ha : gR h a ci k = some x) (hc : vwCl[ci]? = some (C, T, N)) (hk : k < N) (hin : ∀ w ∈ u_ws C T N, w ∈ M.2.2.2.1) (hlk : Cond.fieldLink M.2.1 i (T k).1 (T k).2.1 (T k).2.2.1 ∈ M.2.2.2.1) (hdg : decode M.1 pc = .ok (.getfield i, 3)) (kk : PW g l M d kc ks (pc + 3) lo (.ref x :: st) h Q) : PW g l M d kc ks pc lo (.ref a :: st) h Q := by
  obtain ⟨fs, h1, h2⟩ := gR_spec ha
  exact pw_getV hc hk hin hlk h1 h2 hdg kk
theorem pw_gIN {a ci k N i : Nat} {C host : String} {T : u_T} {x : Int32} (ha : gI h a ci k = some x) (hc : vwCl[ci]? = some (C, T, N)) (hk : k < N) (hin : ∀ w ∈ u_ws C T N, w ∈ M.2.2.2.1) (hlk : Cond.fieldLinkNest M.2.1 i (T k).1 (T k).2.1 (T k).2.2.1 host ∈ nestW) (hdg : decode M.1 pc = .ok (.getfield i, 3)) (kk : PW g l M d kc ks (pc + 3) lo (.int x :: st) h Q) : PW g l M d kc ks pc lo (.ref a :: st) h Q := by
  obtain ⟨fs, h1, h2⟩ := gI_spec ha
  exact pw_getVN hc hk hin hlk h1 h2 hdg kk
theorem pw_gRN {a ci k N i : Nat} {C host : String} {T : u_T} {x : Nat} (ha : gR h a ci k = some x) (hc : vwCl[ci]? = some (C, T, N)) (hk : k < N) (hin : ∀ w ∈ u_ws C T N, w ∈ M.2.2.2.1) (hlk : Cond.fieldLinkNest M.2.1 i (T k).1 (T k).2.1 (T k).2.2.1 host ∈ nestW) (hdg : decode M.1 pc = .ok (.getfield i, 3)) (kk : PW g l M d kc ks (pc + 3) lo (.ref x :: st) h Q) : PW g l M d kc ks pc lo (.ref a :: st) h Q := by
  obtain ⟨fs, h1, h2⟩ := gR_spec ha
  exact pw_getVN hc hk hin hlk h1 h2 hdg kk
/-- the object behind a put -/
theorem obj_put {s : State} {args : Array Value} {H' : Heap} {a ci k N : Nat} {C : String} {T : u_T} {fs : List Value} {v : Value} {Ts : List Cond} (ty0 : Nat → FieldType) (hty : ∀ k, k < N → parseFieldDescriptor (T k).2.2.1 = some (ty0 k)) (hnm : ∀ a, a < N → ∀ b, b < N → a ≠ b → (T a).2.1 ≠ (T b).2.1) (hts : ∀ w ∈ Ts, w.before args s = true) (hin : ∀ w ∈ u_ws C T N, w ∈ Ts) (hK : va_K g.2.1 vwCl [] s) (hc : vwCl[ci]? = some (C, T, N)) (hk : k < N) (hl : k < fs.length) {cell : Cell} (q2 : cell.cls = g.2.1.1 ci) (q3 : cell.vm = .none) (q4 : ∀ j, j < N → cell.slots[g.2.1.2 ci j]? = some (vp_V (fs.map (trV g)) j)) (e1 : H'[g.1 + a]? = some (cell.setSlot (g.2.1.2 ci k) (trV g v))) : va_at g.2.1 vwCl (g.1 + a, trE g (.inr (ci, fs.set k v))) H' := by
  have hap := va_apart (own := C) hts hin ty0 hty hnm hK hc
  have hl' : k < (fs.map (trV g)).length := by rw [List.length_map]; exact hl
  have h9 : va_at g.2.1 vwCl (g.1 + a, .inr (ci, (fs.map (trV g)).set k (trV g v))) H' := ⟨_, hc, t_OB.to (V := updV (vp_V (fs.map (trV g))) k (trV g v)) ⟨_, e1, q2, q3, t_set q4 hap hk (trV g v)⟩ (fun j _ => vp_updV_set hl' (trV g v) j)⟩
  rw [← List.map_set] at h9
  exact h9
theorem pw_pV {a ci k N i : Nat} {C : String} {T : u_T} {v : Value} {h' : Hp} {ty : FieldType} (hp : pV h a ci k v = some h') (ty0 : Nat → FieldType) (hty : ∀ k, k < N → parseFieldDescriptor (T k).2.2.1 = some (ty0 k)) (hnm : ∀ a, a < N → ∀ b, b < N → a ≠ b → (T a).2.1 ≠ (T b).2.1) (hc : vwCl[ci]? = some (C, T, N)) (hk : k < N) (hin : ∀ w ∈ u_ws C T N, w ∈ M.2.2.2.1) (hlk : Cond.fieldLink M.2.1 i (T k).1 (T k).2.1 (T k).2.2.1 ∈ M.2.2.2.1) (hfin : (T k).2.2.2 = false) (hd : parseFieldDescriptor (T k).2.2.1 = some ty) (hn : narrow ty (trV g v) = trV g v) (hfit : fits ty (trV g v) = true) (hdg : decode M.1 pc = .ok (.putfield i, 3)) (kk : PW g l M d kc ks (pc + 3) lo st h' Q) : PW g l M d kc ks pc lo (v :: .ref a :: st) h Q := by
  obtain ⟨fs, ha, hl9, rfl⟩ := pV_spec hp
  intro p e R s m args below meth c H locs cells slots ls C hr hl hR hS hz
  obtain ⟨r, h1, cell, q1, q2, q3, q4⟩ := hR.2 a _ ha
  have hr9 : r = _ := Option.some.inj (h1.symm.trans hc)
  subst hr9
  obtain ⟨hS9, hfc, kC, hkC, hkind⟩ := C.2.2.2.2.2.1.1.1 ci _ hc
  obtain ⟨cf, kf, fi, f, hi, hsl⟩ := hS9 k hk
  have hts := C.2.2.2.2.1
  have hlay := hts _ (hin _ (u_in_lay hk))
  unfold u_lay at hlay
  rw [if_neg (by rw [hfin]; decide)] at hlay
  have hst := (u_facts hfc hkC (u_lays hts hin hk) hi).1
  have h6 := u_store hfc hkC hkind hlay hi hd hn hfit
  refine W.putK C.1 C.2.1 (f := f) ⟨C.2.2.2.1, hts _ hlk, ⟨_, _, _, hi⟩, hst⟩ (by rw [q2]; exact h6) q1 q3 (by rw [hsl]; exact k2_hasslot (q4 k hk)) rfl rfl hdg fun H' e1 e2 e3 => ?_
  rw [hsl] at e1 ⊢
  exact kk p e R s m args below meth c H' _ cells slots ls C hr hl (hR.put e2 e3 (obj_put ty0 hty hnm hts hin C.2.2.2.2.2.1.1 hc hk hl9 q2 q3 q4 e1)) (hS.put e2 e3 (Nat.le_add_right _ _)) hz
theorem pw_pVF {a ci k N i : Nat} {C : String} {T : u_T} {v : Value} {h' : Hp} {ty : FieldType} (hp : pV h a ci k v = some h') (ty0 : Nat → FieldType) (hty : ∀ k, k < N → parseFieldDescriptor (T k).2.2.1 = some (ty0 k)) (hnm : ∀ a, a < N → ∀ b, b < N → a ≠ b → (T a).2.1 ≠ (T b).2.1) (hc : vwCl[ci]? = some (C, T, N)) (hk : k < N) (hin : ∀ w ∈ u_ws C T N, w ∈ M.2.2.2.1) (hlk : Cond.fieldLink M.2.1 i (T k).1 (T k).2.1 (T k).2.2.1 ∈ M.2.2.2.1) (hfin : (T k).2.2.2 = true) (hin2 : M.2.2.1 = "<init>") (hdecl : (T k).1 = M.2.1) (hd : parseFieldDescriptor (T k).2.2.1 = some ty) (hn : narrow ty (trV g v) = trV g v) (hfit : fits ty (trV g v) = true) (hdg : decode M.1 pc = .ok (.putfield i, 3)) (kk : PW g l M d kc ks (pc + 3) lo st h' Q) : PW g l M d kc ks pc lo (v :: .ref a :: st) h Q := by
  obtain ⟨fs, ha, hl9, rfl⟩ := pV_spec hp
  intro p e R s m args below meth c H locs cells slots ls C hr hl hR hS hz
  obtain ⟨r, h1, cell, q1, q2, q3, q4⟩ := hR.2 a _ ha
  have hr9 : r = _ := Option.some.inj (h1.symm.trans hc)
  subst hr9
  obtain ⟨hS9, hfc, kC, hkC, hkind⟩ := C.2.2.2.2.2.1.1.1 ci _ hc
  obtain ⟨cf, kf, fi, f, hi, hsl⟩ := hS9 k hk
  have hts := C.2.2.2.2.1
  have hown := C.2.2.2.1
  have hlay := hts _ (hin _ (u_in_lay hk))
  unfold u_lay at hlay
  rw [if_pos hfin] at hlay
  have hst := (u_facts hfc hkC (u_lays hts hin hk) hi).1
  have hcf : m.cls = cf := by
    obtain ⟨_, _, c', _, _, _, -, -, hf', -, -, -, hown2, -⟩ := Cond.laysFinal_spec hlay
    have e1 : c' = cf := by have := hi.symm.trans hf'; simp at this; exact this.1.symm
    rw [hdecl] at hown2
    rw [← e1]; exact Option.some.inj (hown.symm.trans hown2)
  have h6 := u_fits hfc hkC hkind (Or.inr hlay) hi hd hn hfit
  refine W.putFinK C.1 C.2.1 hown (hts _ hlk) hi hst hcf (C.2.2.2.2.2.2.2.2.trans hin2) (by rw [q2]; exact h6) q1 q3 (by rw [hsl]; exact k2_hasslot (q4 k hk)) rfl rfl hdg fun H' e1 e2 e3 => ?_
  rw [hsl] at e1 ⊢
  exact kk p e R s m args below meth c H' _ cells slots ls C hr hl (hR.put e2 e3 (obj_put ty0 hty hnm hts hin C.2.2.2.2.2.1.1 hc hk hl9 q2 q3 q4 e1)) (hS.put e2 e3 (Nat.le_add_right _ _)) hz
theorem pw_pVN {a ci k N i : Nat} {C host : String} {T : u_T} {v : Value} {h' : Hp} {ty : FieldType} (hp : pV h a ci k v = some h') (ty0 : Nat → FieldType) (hty : ∀ k, k < N → parseFieldDescriptor (T k).2.2.1 = some (ty0 k)) (hnm : ∀ a, a < N → ∀ b, b < N → a ≠ b → (T a).2.1 ≠ (T b).2.1) (hc : vwCl[ci]? = some (C, T, N)) (hk : k < N) (hin : ∀ w ∈ u_ws C T N, w ∈ M.2.2.2.1) (hlk : Cond.fieldLinkNest M.2.1 i (T k).1 (T k).2.1 (T k).2.2.1 host ∈ nestW) (hfin : (T k).2.2.2 = false) (hd : parseFieldDescriptor (T k).2.2.1 = some ty) (hn : narrow ty (trV g v) = trV g v) (hfit : fits ty (trV g v) = true) (hdg : decode M.1 pc = .ok (.putfield i, 3)) (kk : PW g l M d kc ks (pc + 3) lo st h' Q) : PW g l M d kc ks pc lo (v :: .ref a :: st) h Q := by
  obtain ⟨fs, ha, hl9, rfl⟩ := pV_spec hp
  intro p e R s m args below meth c H locs cells slots ls C hr hl hR hS hz
  obtain ⟨r, h1, cell, q1, q2, q3, q4⟩ := hR.2 a _ ha
  have hr9 : r = _ := Option.some.inj (h1.symm.trans hc)
  subst hr9
  obtain ⟨hS9, hfc, kC, hkC, hkind⟩ := C.2.2.2.2.2.1.1.1 ci _ hc
  obtain ⟨cf, kf, fi, f, hi, hsl⟩ := hS9 k hk
  have hts := C.2.2.2.2.1
  have hlay := hts _ (hin _ (u_in_lay hk))
  unfold u_lay at hlay
  rw [if_neg (by rw [hfin]; decide)] at hlay
  have hst := (u_facts hfc hkC (u_lays hts hin hk) hi).1
  have h6 := u_store hfc hkC hkind hlay hi hd hn hfit
  refine va_WputK C.1 C.2.1 (f := f) C.2.2.2.1 (va_Nw.use rfl (C.2.2.2.2.2.1.2.2.1 _ hlk)) hi hst (by rw [q2]; exact h6) q1 q3 (by rw [hsl]; exact k2_hasslot (q4 k hk)) rfl rfl hdg fun H' e1 e2 e3 => ?_
  rw [hsl] at e1 ⊢
  exact kk p e R s m args below meth c H' _ cells slots ls C hr hl (hR.put e2 e3 (obj_put ty0 hty hnm hts hin C.2.2.2.2.2.1.1 hc hk hl9 q2 q3 q4 e1)) (hS.put e2 e3 (Nat.le_add_right _ _)) hz
theorem KX.arr {s : State} (hK : KX g s) {k : Nat} (hk : k < 6) : va_K g.2.1 vwCl [(g.2.2.1 k, akT k)] s := ⟨hK.1.1, fun j q hj => by
  have hz : j < 1 := (List.getElem?_eq_some_iff.mp hj).1
  rw [show j = 0 by omega] at hj
  cases hj
  exact hK.2.1 k hk⟩
theorem pw_iald {a : Nat} {i x : Int32} (hx : aI h 0 a i = some x) (hdg : decode M.1 pc = .ok (.iaload, 1)) (kk : PW g l M d kc ks (pc + 1) lo (.int x :: st) h Q) : PW g l M d kc ks pc lo (.int i :: .ref a :: st) h Q := by
  obtain ⟨n, f, ha, hin, rfl⟩ := aI_spec hx
  exact fun p e R s m args below meth c H locs cells slots ls C hr hl hR hS hz => va_iald C.1 C.2.1 (C.2.2.2.2.2.1.arr (k := 0) (by decide)) (hR.one ha) 0 0 rfl rfl hin hdg (kk p e R s m args below meth c H locs cells slots ls C hr hl hR hS hz)
theorem pw_bald {a : Nat} {i x : Int32} (hx : aI h 1 a i = some x) (hdg : decode M.1 pc = .ok (.baload, 1)) (kk : PW g l M d kc ks (pc + 1) lo (.int x :: st) h Q) : PW g l M d kc ks pc lo (.int i :: .ref a :: st) h Q := by
  obtain ⟨n, f, ha, hin, rfl⟩ := aI_spec hx
  exact fun p e R s m args below meth c H locs cells slots ls C hr hl hR hS hz => va_bald C.1 C.2.1 (C.2.2.2.2.2.1.arr (k := 1) (by decide)) (hR.one ha) 0 0 rfl rfl hin hdg (kk p e R s m args below meth c H locs cells slots ls C hr hl hR hS hz)
theorem pw_zald {a : Nat} {i x : Int32} (hx : aI h 3 a i = some x) (hdg : decode M.1 pc = .ok (.baload, 1)) (kk : PW g l M d kc ks (pc + 1) lo (.int x :: st) h Q) : PW g l M d kc ks pc lo (.int i :: .ref a :: st) h Q := by
  obtain ⟨n, f, ha, hin, rfl⟩ := aI_spec hx
  exact fun p e R s m args below meth c H locs cells slots ls C hr hl hR hS hz => va_zald C.1 C.2.1 (C.2.2.2.2.2.1.arr (k := 3) (by decide)) (hR.one ha) 0 0 rfl rfl hin hdg (kk p e R s m args below meth c H locs cells slots ls C hr hl hR hS hz)
theorem pw_lald {a : Nat} {i : Int32} {x : Int64} (hx : aL h a i = some x) (hdg : decode M.1 pc = .ok (.laload, 1)) (kk : PW g l M d kc ks (pc + 1) lo (.long x :: st) h Q) : PW g l M d kc ks pc lo (.int i :: .ref a :: st) h Q := by
  obtain ⟨n, f, ha, hin, rfl⟩ := aL_spec hx
  exact fun p e R s m args below meth c H locs cells slots ls C hr hl hR hS hz => va_lald C.1 C.2.1 (C.2.2.2.2.2.1.arr (k := 2) (by decide)) (hR.one ha) 0 0 rfl rfl hin hdg (kk p e R s m args below meth c H locs cells slots ls C hr hl hR hS hz)
theorem pw_alen {a : Nat} {x : Int32} (hx : aN h a = some x) (hdg : decode M.1 pc = .ok (.arraylength, 1)) (kk : PW g l M d kc ks (pc + 1) lo (.int x :: st) h Q) : PW g l M d kc ks pc lo (.ref a :: st) h Q := by
  obtain ⟨k, n, c0, ha, hk, rfl⟩ := aN_spec hx
  exact fun p e R s m args below meth c H locs cells slots ls C hr hl hR hS hz => va_alen C.1 C.2.1 (C.2.2.2.2.2.1.arr hk) (hR.one ha) 0 0 rfl rfl rfl hdg (kk p e R s m args below meth c H locs cells slots ls C hr hl hR hS hz)
/-- a reference out of an array of objects or of rows -/
def refV : Option Nat → Value
  | some k => .ref k
  | none => .null
theorem trV_refV (r : Option Nat) : trV g (refV r) = va_rf (r.map (fun k => g.1 + k)) := by cases r <;> rfl
theorem pw_aald {a kd : Nat} {i : Int32} {x : Option Nat} (hx : aQ h kd a i = some x) (hkd : kd < 6) (hty : (akT kd).isReference = true) (hdg : decode M.1 pc = .ok (.aaload, 1)) (kk : PW g l M d kc ks (pc + 1) lo (refV x :: st) h Q) : PW g l M d kc ks pc lo (.int i :: .ref a :: st) h Q := by
  obtain ⟨n, f, ha, hin, rfl⟩ := aQ_spec hx
  intro p e R s m args below meth c H locs cells slots ls C hr hl hR hS hz
  have hk9 := kk p e R s m args below meth c H locs cells slots ls C hr hl hR hS hz
  rw [List.map_cons, trV_refV] at hk9
  have hlt : i.toNatClampNeg < n := Nat.not_le.mp fun q => hin (Or.inr q)
  exact W.aald (v := va_rf ((f i.toNatClampNeg).map (fun k => g.1 + k))) C.1 C.2.1 (hR.2 a _ ha) ((C.2.2.2.2.2.1.2.1 kd hkd).1 n (fun j => va_rf (trQ g f j))) hty (fun q => by cases q) (by show ¬ (i < 0 ∨ (arrV _ _ _).slots.size ≤ _); rw [arrV_size]; exact hin) (by show (arrV _ _ _).slots[_]? = _; rw [arrV_read _ _ hlt]; rfl) rfl rfl hdg hk9
theorem pw_iast {a : Nat} {i x : Int32} {h' : Hp} (hx : sI h 0 a i x = some h') (hdg : decode M.1 pc = .ok (.iastore, 1)) (kk : PW g l M d kc ks (pc + 1) lo st h' Q) : PW g l M d kc ks pc lo (.int x :: .int i :: .ref a :: st) h Q := by
  obtain ⟨n, f, ha, hin, rfl⟩ := sI_spec hx
  intro p e R s m args below meth c H locs cells slots ls C hr hl hR hS hz
  refine W.iast C.1 C.2.1 (hR.2 a _ ha) ((C.2.2.2.2.2.1.2.1 0 (by decide)).1 n (fun j => .int (f j))) (fun q => by cases q) (by show ¬ (i < 0 ∨ (arrV _ _ _).slots.size ≤ _); rw [arrV_size]; exact hin) rfl rfl hdg fun H1 e9 z oq => ?_
  refine kk p e R s m args below meth c H1 _ cells slots ls C hr hl (hR.put z oq ?_) (hS.put z oq (Nat.le_add_right _ _)) hz
  show H1[g.1 + a]? = some (vp_cell _ _)
  rw [e9]
  show some ((vp_cell (g.2.2.1 0) (n, .inl f)).setSlot i.toNatClampNeg (.int x)) = some (vp_cell (g.2.2.1 0) (n, .inl (upd f i.toNatClampNeg x)))
  rw [vp_cell_i, vp_cell_i, arrV_store]
  congr 2
  funext q
  by_cases hq : q = i.toNatClampNeg
  · subst hq
    simp [updV, upd]
  · simp [updV, upd, hq]
theorem pw_bast {a : Nat} {i x y : Int32} {h' : Hp} (hy : vp_nar .byte x = y) (hx : sI h 1 a i y = some h') (hdg : decode M.1 pc = .ok (.bastore, 1)) (kk : PW g l M d kc ks (pc + 1) lo st h' Q) : PW g l M d kc ks pc lo (.int x :: .int i :: .ref a :: st) h Q := by
  subst hy
  obtain ⟨n, f, ha, hin, rfl⟩ := sI_spec hx
  intro p e R s m args below meth c H locs cells slots ls C hr hl hR hS hz
  refine W.bast C.1 C.2.1 (hR.2 a _ ha) ((C.2.2.2.2.2.1.2.1 1 (by decide)).1 n (fun j => .int (f j))) (fun q => by cases q) (by show ¬ (i < 0 ∨ (arrV _ _ _).slots.size ≤ _); rw [arrV_size]; exact hin) rfl rfl hdg fun H1 e9 z oq => ?_
  refine kk p e R s m args below meth c H1 _ cells slots ls C hr hl (hR.put z oq ?_) (hS.put z oq (Nat.le_add_right _ _)) hz
  show H1[g.1 + a]? = some (vp_cell _ _)
  rw [e9]
  show some ((vp_cell (g.2.2.1 1) (n, .inl f)).setSlot i.toNatClampNeg (narrow .byte (.int x))) = some (vp_cell (g.2.2.1 1) (n, .inl (upd f i.toNatClampNeg (vp_nar .byte x))))
  rw [vp_cell_i, vp_cell_i, arrV_store]
  congr 2
  funext q
  by_cases hq : q = i.toNatClampNeg
  · subst hq
    simp [updV, upd, vp_nar, narrow]
  · simp [updV, upd, hq]
theorem pw_zast {a : Nat} {i x y : Int32} {h' : Hp} (hy : vp_nar .boolean x = y) (hx : sI h 3 a i y = some h') (hdg : decode M.1 pc = .ok (.bastore, 1)) (kk : PW g l M d kc ks (pc + 1) lo st h' Q) : PW g l M d kc ks pc lo (.int x :: .int i :: .ref a :: st) h Q := by
  subst hy
  obtain ⟨n, f, ha, hin, rfl⟩ := sI_spec hx
  intro p e R s m args below meth c H locs cells slots ls C hr hl hR hS hz
  refine W.zast C.1 C.2.1 (hR.2 a _ ha) ((C.2.2.2.2.2.1.2.1 3 (by decide)).1 n (fun j => .int (f j))) (fun q => by cases q) (by show ¬ (i < 0 ∨ (arrV _ _ _).slots.size ≤ _); rw [arrV_size]; exact hin) rfl rfl hdg fun H1 e9 z oq => ?_
  refine kk p e R s m args below meth c H1 _ cells slots ls C hr hl (hR.put z oq ?_) (hS.put z oq (Nat.le_add_right _ _)) hz
  show H1[g.1 + a]? = some (vp_cell _ _)
  rw [e9]
  show some ((vp_cell (g.2.2.1 3) (n, .inl f)).setSlot i.toNatClampNeg (narrow .boolean (.int x))) = some (vp_cell (g.2.2.1 3) (n, .inl (upd f i.toNatClampNeg (vp_nar .boolean x))))
  rw [vp_cell_i, vp_cell_i, arrV_store]
  congr 2
  funext q
  by_cases hq : q = i.toNatClampNeg
  · subst hq
    simp [updV, upd, vp_nar, narrow]
  · simp [updV, upd, hq]
theorem pw_last {a : Nat} {i : Int32} {x : Int64} {h' : Hp} (hx : sL h a i x = some h') (hdg : decode M.1 pc = .ok (.lastore, 1)) (kk : PW g l M d kc ks (pc + 1) lo st h' Q) : PW g l M d kc ks pc lo (.long x :: .int i :: .ref a :: st) h Q := by
  obtain ⟨n, f, ha, hin, rfl⟩ := sL_spec hx
  intro p e R s m args below meth c H locs cells slots ls C hr hl hR hS hz
  refine W.last C.1 C.2.1 (hR.2 a _ ha) ((C.2.2.2.2.2.1.2.1 2 (by decide)).1 n (fun j => .long (f j))) (fun q => by cases q) (by show ¬ (i < 0 ∨ (arrV _ _ _).slots.size ≤ _); rw [arrV_size]; exact hin) rfl rfl hdg fun H1 e9 z oq => ?_
  refine kk p e R s m args below meth c H1 _ cells slots ls C hr hl (hR.put z oq ?_) (hS.put z oq (Nat.le_add_right _ _)) hz
  show H1[g.1 + a]? = some (vp_cell _ _)
  rw [e9]
  show some ((vp_cell (g.2.2.1 2) (n, .inr (.inl f))).setSlot i.toNatClampNeg (.long x)) = some (vp_cell (g.2.2.1 2) (n, .inr (.inl (vp_updL f i.toNatClampNeg x))))
  rw [vp_cell_l, vp_cell_l, arrV_store]
  congr 2
  funext q
  by_cases hq : q = i.toNatClampNeg
  · subst hq
    simp [updV, vp_updL]
  · simp [updV, vp_updL, hq]
/-! returns -/
theorem Q_of {s t : State} {H : Heap} {locs : List Loc} {r : Option Value} {a : Array Value} (hq : Q r h) (hR : REL g h H) (hS : va_S (fun q => g.1 ≤ q) s.heap H locs) (ht : t.heap = H) : QcOf g Q a s (.returned (r.map (trV g))) t := ⟨⟨r, h, rfl, hq, by rw [ht]; exact hR⟩, hS.F ht⟩
theorem pw_iret {x : Int32} {ty : FieldType} (hr9 : M.2.2.2.2.2 = some ty) (hn : narrow ty (.int x) = .int x) (hdg : decode M.1 pc = .ok (.ireturn, 1)) (hq : Q (some (.int x)) h) : PW g l M d kc ks pc lo [.int x] h Q := fun p e R s m args below meth c H locs cells slots ls C hr hl hR hS hz =>
  W.widen (Nat.le_add_right _ _) (Nat.le_add_right _ _) (W.zret C.1 C.2.1 (C.2.2.2.2.2.2.1.trans hr9) hn (fun t ht hW => Q_of (r := some (.int x)) hq hR hS ht) hS.2.2 hdg C.2.2.2.2.2.2.2.1)
theorem pw_lret {x : Int64} (hr9 : M.2.2.2.2.2 = some .long) (hdg : decode M.1 pc = .ok (.lreturn, 1)) (hq : Q (some (.long x)) h) : PW g l M d kc ks pc lo [.long x] h Q := fun p e R s m args below meth c H locs cells slots ls C hr hl hR hS hz =>
  W.widen (Nat.le_add_right _ _) (Nat.le_add_right _ _) (W.lret C.1 C.2.1 (C.2.2.2.2.2.2.1.trans hr9) (fun t ht hW => Q_of (r := some (.long x)) hq hR hS ht) hS.2.2 hdg C.2.2.2.2.2.2.2.1)
theorem pw_aret {x : Nat} {ty : FieldType} (hr9 : M.2.2.2.2.2 = some ty) (hrt : (∃ n, ty = .object n) ∨ ∃ t, ty = .array t) (hdg : decode M.1 pc = .ok (.areturn, 1)) (hq : Q (some (.ref x)) h) : PW g l M d kc ks pc lo [.ref x] h Q := fun p e R s m args below meth c H locs cells slots ls C hr hl hR hS hz =>
  W.widen (Nat.le_add_right _ _) (Nat.le_add_right _ _) (W.aret (v := .ref (g.1 + x)) C.1 C.2.1 (C.2.2.2.2.2.2.1.trans hr9) hrt (Or.inr ⟨_, rfl⟩) (fun t ht hW => Q_of (r := some (.ref x)) hq hR hS ht) hS.2.2 hdg C.2.2.2.2.2.2.2.1)
theorem pw_vret (hr9 : M.2.2.2.2.2 = none) (hdg : decode M.1 pc = .ok (.return_, 1)) (hq : Q none h) : PW g l M d kc ks pc lo [] h Q := fun p e R s m args below meth c H locs cells slots ls C hr hl hR hS hz =>
  W.widen (Nat.le_add_right _ _) (Nat.le_add_right _ _) (W.vret C.1 C.2.1 (C.2.2.2.2.2.2.1.trans hr9) (fun t ht hW => Q_of (r := none) hq hR hS ht) hS.2.2 hdg C.2.2.2.2.2.2.2.1)
end PWH
