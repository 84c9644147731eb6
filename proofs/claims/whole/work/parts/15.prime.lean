/-! the rules again, each splitting the equation of a function beside the walk -/
def oK (h : Hp) (b ci : Nat) : Bool := match h.2 b with
  | some (.inr (c, _)) => c == ci
  | _ => false
theorem oK_spec {h : Hp} {b ci : Nat} (q : oK h b ci = true) : ∃ fs, h.2 b = some (.inr (ci, fs)) := by
  unfold oK at q
  split at q
  · rename_i c fs e
    have : c = ci := by simpa using q
    subst this
    exact ⟨fs, e⟩
  · cases q
def lle : List (Option Value) → List (Option Value) → Prop
  | [], _ => True
  | none :: a, [] => lle a []
  | none :: a, _ :: b => lle a b
  | some v :: a, some w :: b => v = w ∧ lle a b
  | some _ :: _, _ => False
theorem lle_spec : ∀ (a b : List (Option Value)), lle a b → ∀ (i : Nat) (v : Value), a[i]? = some (some v) → b[i]? = some (some v)
  | [], _, _, i, v, h => by simp at h
  | none :: a, [], q, i, v, h => by
    cases i with
    | zero => simp at h
    | succ i =>
      have := lle_spec a [] (by simpa [lle] using q) i v (by simpa using h)
      simp at this
  | none :: a, _ :: b, q, i, v, h => by
    cases i with
    | zero => simp at h
    | succ i => simpa using lle_spec a b (by simpa [lle] using q) i v (by simpa using h)
  | some x :: a, some y :: b, q, i, v, h => by
    simp only [lle] at q
    cases i with
    | zero => simp at h ⊢; rw [← q.1]; exact h
    | succ i => simpa using lle_spec a b q.2 i v (by simpa using h)
  | some _ :: _, [], q, _, _, _ => by simp [lle] at q
  | some _ :: _, none :: _, q, _, _, _ => by simp [lle] at q
section PWQ
variable {g : GT} {l : Launch} {M : MD} {d kc ks pc : Nat} {lo : List (Option Value)} {st : List Value} {h : Hp} {Q : Option Value → Hp → Prop} {α β : Type} {r : α}
theorem pw_lo {lo' : List (Option Value)} (hle : lle lo' lo) (k : PW g l M d kc ks pc lo' st h Q) : PW g l M d kc ks pc lo st h Q := fun p e R s m args below meth c H locs cells slots ls C hr hl hR hS hz => k p e R s m args below meth c H locs cells slots ls C hr ⟨hl.1, hl.2.1, fun i v hi => hl.2.2 i v (lle_spec _ _ hle i v hi)⟩ hR hS hz
theorem ob {o : Option β} {F : β → Option α} (hf : o.bind F = some r) : ∃ x, o = some x ∧ F x = some r := Option.bind_eq_some_iff.mp hf
theorem q_if_eq {x : Int32} {off : Int} {tgt : Nat} {A B : Option α} {i9 : Decidable (x = 0)} (hf : @ite _ (x = 0) i9 A B = some r) (hdg : decode M.1 pc = .ok (.ifCond .eq off, 3)) (ht : (pc : Int) + off = (tgt : Int)) (kt : A = some r → x = 0 → PW g l M d kc ks tgt lo st h Q) (kf : B = some r → ¬ x = 0 → PW g l M d kc ks (pc + 3) lo st h Q) : PW g l M d kc ks pc lo (.int x :: st) h Q := pw_if_eq hdg ht (fun q => kt ((if_pos q).symm.trans hf) q) (fun q => kf ((if_neg q).symm.trans hf) q)
theorem q_icmp_eq {x y : Int32} {off : Int} {tgt : Nat} {A B : Option α} {i9 : Decidable (x = y)} (hf : @ite _ (x = y) i9 A B = some r) (hdg : decode M.1 pc = .ok (.if_icmp .eq off, 3)) (ht : (pc : Int) + off = (tgt : Int)) (kt : A = some r → x = y → PW g l M d kc ks tgt lo st h Q) (kf : B = some r → ¬ x = y → PW g l M d kc ks (pc + 3) lo st h Q) : PW g l M d kc ks pc lo (.int y :: .int x :: st) h Q := pw_icmp_eq hdg ht (fun q => kt ((if_pos q).symm.trans hf) q) (fun q => kf ((if_neg q).symm.trans hf) q)
theorem q_if_lt {x : Int32} {off : Int} {tgt : Nat} {A B : Option α} {i9 : Decidable (x < 0)} (hf : @ite _ (x < 0) i9 A B = some r) (hdg : decode M.1 pc = .ok (.ifCond .lt off, 3)) (ht : (pc : Int) + off = (tgt : Int)) (kt : A = some r → x < 0 → PW g l M d kc ks tgt lo st h Q) (kf : B = some r → ¬ x < 0 → PW g l M d kc ks (pc + 3) lo st h Q) : PW g l M d kc ks pc lo (.int x :: st) h Q := pw_if_lt hdg ht (fun q => kt ((if_pos q).symm.trans hf) q) (fun q => kf ((if_neg q).symm.trans hf) q)
theorem q_icmp_lt {x y : Int32} {off : Int} {tgt : Nat} {A B : Option α} {i9 : Decidable (x < y)} (hf : @ite _ (x < y) i9 A B = some r) (hdg : decode M.1 pc = .ok (.if_icmp .lt off, 3)) (ht : (pc : Int) + off = (tgt : Int)) (kt : A = some r → x < y → PW g l M d kc ks tgt lo st h Q) (kf : B = some r → ¬ x < y → PW g l M d kc ks (pc + 3) lo st h Q) : PW g l M d kc ks pc lo (.int y :: .int x :: st) h Q := pw_icmp_lt hdg ht (fun q => kt ((if_pos q).symm.trans hf) q) (fun q => kf ((if_neg q).symm.trans hf) q)
theorem q_if_ge {x : Int32} {off : Int} {tgt : Nat} {A B : Option α} {i9 : Decidable (0 ≤ x)} (hf : @ite _ (0 ≤ x) i9 A B = some r) (hdg : decode M.1 pc = .ok (.ifCond .ge off, 3)) (ht : (pc : Int) + off = (tgt : Int)) (kt : A = some r → 0 ≤ x → PW g l M d kc ks tgt lo st h Q) (kf : B = some r → ¬ 0 ≤ x → PW g l M d kc ks (pc + 3) lo st h Q) : PW g l M d kc ks pc lo (.int x :: st) h Q := pw_if_ge hdg ht (fun q => kt ((if_pos q).symm.trans hf) q) (fun q => kf ((if_neg q).symm.trans hf) q)
theorem q_icmp_ge {x y : Int32} {off : Int} {tgt : Nat} {A B : Option α} {i9 : Decidable (y ≤ x)} (hf : @ite _ (y ≤ x) i9 A B = some r) (hdg : decode M.1 pc = .ok (.if_icmp .ge off, 3)) (ht : (pc : Int) + off = (tgt : Int)) (kt : A = some r → y ≤ x → PW g l M d kc ks tgt lo st h Q) (kf : B = some r → ¬ y ≤ x → PW g l M d kc ks (pc + 3) lo st h Q) : PW g l M d kc ks pc lo (.int y :: .int x :: st) h Q := pw_icmp_ge hdg ht (fun q => kt ((if_pos q).symm.trans hf) q) (fun q => kf ((if_neg q).symm.trans hf) q)
theorem q_if_gt {x : Int32} {off : Int} {tgt : Nat} {A B : Option α} {i9 : Decidable (0 < x)} (hf : @ite _ (0 < x) i9 A B = some r) (hdg : decode M.1 pc = .ok (.ifCond .gt off, 3)) (ht : (pc : Int) + off = (tgt : Int)) (kt : A = some r → 0 < x → PW g l M d kc ks tgt lo st h Q) (kf : B = some r → ¬ 0 < x → PW g l M d kc ks (pc + 3) lo st h Q) : PW g l M d kc ks pc lo (.int x :: st) h Q := pw_if_gt hdg ht (fun q => kt ((if_pos q).symm.trans hf) q) (fun q => kf ((if_neg q).symm.trans hf) q)
theorem q_icmp_gt {x y : Int32} {off : Int} {tgt : Nat} {A B : Option α} {i9 : Decidable (y < x)} (hf : @ite _ (y < x) i9 A B = some r) (hdg : decode M.1 pc = .ok (.if_icmp .gt off, 3)) (ht : (pc : Int) + off = (tgt : Int)) (kt : A = some r → y < x → PW g l M d kc ks tgt lo st h Q) (kf : B = some r → ¬ y < x → PW g l M d kc ks (pc + 3) lo st h Q) : PW g l M d kc ks pc lo (.int y :: .int x :: st) h Q := pw_icmp_gt hdg ht (fun q => kt ((if_pos q).symm.trans hf) q) (fun q => kf ((if_neg q).symm.trans hf) q)
theorem q_if_le {x : Int32} {off : Int} {tgt : Nat} {A B : Option α} {i9 : Decidable (x ≤ 0)} (hf : @ite _ (x ≤ 0) i9 A B = some r) (hdg : decode M.1 pc = .ok (.ifCond .le off, 3)) (ht : (pc : Int) + off = (tgt : Int)) (kt : A = some r → x ≤ 0 → PW g l M d kc ks tgt lo st h Q) (kf : B = some r → ¬ x ≤ 0 → PW g l M d kc ks (pc + 3) lo st h Q) : PW g l M d kc ks pc lo (.int x :: st) h Q := pw_if_le hdg ht (fun q => kt ((if_pos q).symm.trans hf) q) (fun q => kf ((if_neg q).symm.trans hf) q)
theorem q_icmp_le {x y : Int32} {off : Int} {tgt : Nat} {A B : Option α} {i9 : Decidable (x ≤ y)} (hf : @ite _ (x ≤ y) i9 A B = some r) (hdg : decode M.1 pc = .ok (.if_icmp .le off, 3)) (ht : (pc : Int) + off = (tgt : Int)) (kt : A = some r → x ≤ y → PW g l M d kc ks tgt lo st h Q) (kf : B = some r → ¬ x ≤ y → PW g l M d kc ks (pc + 3) lo st h Q) : PW g l M d kc ks pc lo (.int y :: .int x :: st) h Q := pw_icmp_le hdg ht (fun q => kt ((if_pos q).symm.trans hf) q) (fun q => kf ((if_neg q).symm.trans hf) q)
theorem q_if_ne {x : Int32} {off : Int} {tgt : Nat} {A B : Option α} {i9 : Decidable (x = 0)} (hf : @ite _ (x = 0) i9 A B = some r) (hdg : decode M.1 pc = .ok (.ifCond .ne off, 3)) (ht : (pc : Int) + off = (tgt : Int)) (kt : B = some r → ¬ x = 0 → PW g l M d kc ks tgt lo st h Q) (kf : A = some r → x = 0 → PW g l M d kc ks (pc + 3) lo st h Q) : PW g l M d kc ks pc lo (.int x :: st) h Q := pw_if_ne hdg ht (fun q => kt ((if_neg q).symm.trans hf) q) (fun q => kf ((if_pos q).symm.trans hf) q)
theorem q_icmp_ne {x y : Int32} {off : Int} {tgt : Nat} {A B : Option α} {i9 : Decidable (x = y)} (hf : @ite _ (x = y) i9 A B = some r) (hdg : decode M.1 pc = .ok (.if_icmp .ne off, 3)) (ht : (pc : Int) + off = (tgt : Int)) (kt : B = some r → ¬ x = y → PW g l M d kc ks tgt lo st h Q) (kf : A = some r → x = y → PW g l M d kc ks (pc + 3) lo st h Q) : PW g l M d kc ks pc lo (.int y :: .int x :: st) h Q := pw_icmp_ne hdg ht (fun q => kt ((if_neg q).symm.trans hf) q) (fun q => kf ((if_pos q).symm.trans hf) q)
theorem q_idiv {x y : Int32} {B : Option α} {i9 : Decidable (y = 0)} (hf : @ite _ (y = 0) i9 none B = some r) (hdg : decode M.1 pc = .ok (.idiv, 1)) (k : B = some r → PW g l M d kc ks (pc + 1) lo (.int (x / y) :: st) h Q) : PW g l M d kc ks pc lo (.int y :: .int x :: st) h Q := by
  by_cases q : y = 0
  · rw [if_pos q] at hf; cases hf
  · exact pw_idiv hdg q (k ((if_neg q).symm.trans hf))
theorem q_irem {x y : Int32} {B : Option α} {i9 : Decidable (y = 0)} (hf : @ite _ (y = 0) i9 none B = some r) (hdg : decode M.1 pc = .ok (.irem, 1)) (k : B = some r → PW g l M d kc ks (pc + 1) lo (.int (x - x / y * y) :: st) h Q) : PW g l M d kc ks pc lo (.int y :: .int x :: st) h Q := by
  by_cases q : y = 0
  · rw [if_pos q] at hf; cases hf
  · exact pw_irem hdg q (k ((if_neg q).symm.trans hf))
theorem q_ldiv {x y : Int64} {B : Option α} {i9 : Decidable (y = 0)} (hf : @ite _ (y = 0) i9 none B = some r) (hdg : decode M.1 pc = .ok (.ldiv, 1)) (k : B = some r → PW g l M d kc ks (pc + 1) lo (.long (x / y) :: st) h Q) : PW g l M d kc ks pc lo (.long y :: .long x :: st) h Q := by
  by_cases q : y = 0
  · rw [if_pos q] at hf; cases hf
  · exact pw_ldiv hdg q (k ((if_neg q).symm.trans hf))
theorem q_lrem {x y : Int64} {B : Option α} {i9 : Decidable (y = 0)} (hf : @ite _ (y = 0) i9 none B = some r) (hdg : decode M.1 pc = .ok (.lrem, 1)) (k : B = some r → PW g l M d kc ks (pc + 1) lo (.long (x - x / y * y) :: st) h Q) : PW g l M d kc ks pc lo (.long y :: .long x :: st) h Q := by
  by_cases q : y = 0
  · rw [if_pos q] at hf; cases hf
  · exact pw_lrem hdg q (k ((if_neg q).symm.trans hf))
theorem q_gI {a ci k N i : Nat} {C : String} {T : u_T} {F : Int32 → Option α} (hf : (gI h a ci k).bind F = some r) (hc : vwCl[ci]? = some (C, T, N)) (hk : k < N) (hin : ∀ w ∈ u_ws C T N, w ∈ M.2.2.2.1) (hlk : Cond.fieldLink M.2.1 i (T k).1 (T k).2.1 (T k).2.2.1 ∈ M.2.2.2.1) (hdg : decode M.1 pc = .ok (.getfield i, 3)) (kk : ∀ x, F x = some r → PW g l M d kc ks (pc + 3) lo (.int x :: st) h Q) : PW g l M d kc ks pc lo (.ref a :: st) h Q := by
  obtain ⟨x, e, hf⟩ := ob hf
  exact pw_gI e hc hk hin hlk hdg (kk x hf)
theorem q_gIN {a ci k N i : Nat} {C host : String} {T : u_T} {F : Int32 → Option α} (hf : (gI h a ci k).bind F = some r) (hc : vwCl[ci]? = some (C, T, N)) (hk : k < N) (hin : ∀ w ∈ u_ws C T N, w ∈ M.2.2.2.1) (hlk : Cond.fieldLinkNest M.2.1 i (T k).1 (T k).2.1 (T k).2.2.1 host ∈ nestW) (hdg : decode M.1 pc = .ok (.getfield i, 3)) (kk : ∀ x, F x = some r → PW g l M d kc ks (pc + 3) lo (.int x :: st) h Q) : PW g l M d kc ks pc lo (.ref a :: st) h Q := by
  obtain ⟨x, e, hf⟩ := ob hf
  exact pw_gIN e hc hk hin hlk hdg (kk x hf)
theorem q_gL {a ci k N i : Nat} {C : String} {T : u_T} {F : Int64 → Option α} (hf : (gL h a ci k).bind F = some r) (hc : vwCl[ci]? = some (C, T, N)) (hk : k < N) (hin : ∀ w ∈ u_ws C T N, w ∈ M.2.2.2.1) (hlk : Cond.fieldLink M.2.1 i (T k).1 (T k).2.1 (T k).2.2.1 ∈ M.2.2.2.1) (hdg : decode M.1 pc = .ok (.getfield i, 3)) (kk : ∀ x, F x = some r → PW g l M d kc ks (pc + 3) lo (.long x :: st) h Q) : PW g l M d kc ks pc lo (.ref a :: st) h Q := by
  obtain ⟨x, e, hf⟩ := ob hf
  exact pw_gL e hc hk hin hlk hdg (kk x hf)
theorem q_gR {a ci k N i : Nat} {C : String} {T : u_T} {F : Nat → Option α} (hf : (gR h a ci k).bind F = some r) (hc : vwCl[ci]? = some (C, T, N)) (hk : k < N) (hin : ∀ w ∈ u_ws C T N, w ∈ M.2.2.2.1) (hlk : Cond.fieldLink M.2.1 i (T k).1 (T k).2.1 (T k).2.2.1 ∈ M.2.2.2.1) (hdg : decode M.1 pc = .ok (.getfield i, 3)) (kk : ∀ x, F x = some r → PW g l M d kc ks (pc + 3) lo (.ref x :: st) h Q) : PW g l M d kc ks pc lo (.ref a :: st) h Q := by
  obtain ⟨x, e, hf⟩ := ob hf
  exact pw_gR e hc hk hin hlk hdg (kk x hf)
theorem q_gRN {a ci k N i : Nat} {C host : String} {T : u_T} {F : Nat → Option α} (hf : (gR h a ci k).bind F = some r) (hc : vwCl[ci]? = some (C, T, N)) (hk : k < N) (hin : ∀ w ∈ u_ws C T N, w ∈ M.2.2.2.1) (hlk : Cond.fieldLinkNest M.2.1 i (T k).1 (T k).2.1 (T k).2.2.1 host ∈ nestW) (hdg : decode M.1 pc = .ok (.getfield i, 3)) (kk : ∀ x, F x = some r → PW g l M d kc ks (pc + 3) lo (.ref x :: st) h Q) : PW g l M d kc ks pc lo (.ref a :: st) h Q := by
  obtain ⟨x, e, hf⟩ := ob hf
  exact pw_gRN e hc hk hin hlk hdg (kk x hf)
theorem q_pV {a ci k N i : Nat} {C : String} {T : u_T} {v : Value} {ty : FieldType} {F : Hp → Option α} (hf : (pV h a ci k v).bind F = some r) (ty0 : Nat → FieldType) (hty : ∀ k, k < N → parseFieldDescriptor (T k).2.2.1 = some (ty0 k)) (hnm : ∀ a, a < N → ∀ b, b < N → a ≠ b → (T a).2.1 ≠ (T b).2.1) (hc : vwCl[ci]? = some (C, T, N)) (hk : k < N) (hin : ∀ w ∈ u_ws C T N, w ∈ M.2.2.2.1) (hlk : Cond.fieldLink M.2.1 i (T k).1 (T k).2.1 (T k).2.2.1 ∈ M.2.2.2.1) (hfin : (T k).2.2.2 = false) (hd : parseFieldDescriptor (T k).2.2.1 = some ty) (hn : narrow ty (trV g v) = trV g v) (hfit : fits ty (trV g v) = true) (hdg : decode M.1 pc = .ok (.putfield i, 3)) (kk : ∀ h', F h' = some r → PW g l M d kc ks (pc + 3) lo st h' Q) : PW g l M d kc ks pc lo (v :: .ref a :: st) h Q := by
  obtain ⟨x, e, hf⟩ := ob hf
  exact pw_pV e ty0 hty hnm hc hk hin hlk hfin hd hn hfit hdg (kk x hf)
theorem q_pVF {a ci k N i : Nat} {C : String} {T : u_T} {v : Value} {ty : FieldType} {F : Hp → Option α} (hf : (pV h a ci k v).bind F = some r) (ty0 : Nat → FieldType) (hty : ∀ k, k < N → parseFieldDescriptor (T k).2.2.1 = some (ty0 k)) (hnm : ∀ a, a < N → ∀ b, b < N → a ≠ b → (T a).2.1 ≠ (T b).2.1) (hc : vwCl[ci]? = some (C, T, N)) (hk : k < N) (hin : ∀ w ∈ u_ws C T N, w ∈ M.2.2.2.1) (hlk : Cond.fieldLink M.2.1 i (T k).1 (T k).2.1 (T k).2.2.1 ∈ M.2.2.2.1) (hfin : (T k).2.2.2 = true) (hin2 : M.2.2.1 = "<init>") (hdecl : (T k).1 = M.2.1) (hd : parseFieldDescriptor (T k).2.2.1 = some ty) (hn : narrow ty (trV g v) = trV g v) (hfit : fits ty (trV g v) = true) (hdg : decode M.1 pc = .ok (.putfield i, 3)) (kk : ∀ h', F h' = some r → PW g l M d kc ks (pc + 3) lo st h' Q) : PW g l M d kc ks pc lo (v :: .ref a :: st) h Q := by
  obtain ⟨x, e, hf⟩ := ob hf
  exact pw_pVF e ty0 hty hnm hc hk hin hlk hfin hin2 hdecl hd hn hfit hdg (kk x hf)
theorem q_pVN {a ci k N i : Nat} {C host : String} {T : u_T} {v : Value} {ty : FieldType} {F : Hp → Option α} (hf : (pV h a ci k v).bind F = some r) (ty0 : Nat → FieldType) (hty : ∀ k, k < N → parseFieldDescriptor (T k).2.2.1 = some (ty0 k)) (hnm : ∀ a, a < N → ∀ b, b < N → a ≠ b → (T a).2.1 ≠ (T b).2.1) (hc : vwCl[ci]? = some (C, T, N)) (hk : k < N) (hin : ∀ w ∈ u_ws C T N, w ∈ M.2.2.2.1) (hlk : Cond.fieldLinkNest M.2.1 i (T k).1 (T k).2.1 (T k).2.2.1 host ∈ nestW) (hfin : (T k).2.2.2 = false) (hd : parseFieldDescriptor (T k).2.2.1 = some ty) (hn : narrow ty (trV g v) = trV g v) (hfit : fits ty (trV g v) = true) (hdg : decode M.1 pc = .ok (.putfield i, 3)) (kk : ∀ h', F h' = some r → PW g l M d kc ks (pc + 3) lo st h' Q) : PW g l M d kc ks pc lo (v :: .ref a :: st) h Q := by
  obtain ⟨x, e, hf⟩ := ob hf
  exact pw_pVN e ty0 hty hnm hc hk hin hlk hfin hd hn hfit hdg (kk x hf)
theorem q_iald {a : Nat} {i : Int32} {F : Int32 → Option α} (hf : (aI h 0 a i).bind F = some r) (hdg : decode M.1 pc = .ok (.iaload, 1)) (kk : ∀ x, F x = some r → PW g l M d kc ks (pc + 1) lo (.int x :: st) h Q) : PW g l M d kc ks pc lo (.int i :: .ref a :: st) h Q := by
  obtain ⟨x, e, hf⟩ := ob hf
  exact pw_iald e hdg (kk x hf)
theorem q_bald {a : Nat} {i : Int32} {F : Int32 → Option α} (hf : (aI h 1 a i).bind F = some r) (hdg : decode M.1 pc = .ok (.baload, 1)) (kk : ∀ x, F x = some r → PW g l M d kc ks (pc + 1) lo (.int x :: st) h Q) : PW g l M d kc ks pc lo (.int i :: .ref a :: st) h Q := by
  obtain ⟨x, e, hf⟩ := ob hf
  exact pw_bald e hdg (kk x hf)
theorem q_zald {a : Nat} {i : Int32} {F : Int32 → Option α} (hf : (aI h 3 a i).bind F = some r) (hdg : decode M.1 pc = .ok (.baload, 1)) (kk : ∀ x, F x = some r → PW g l M d kc ks (pc + 1) lo (.int x :: st) h Q) : PW g l M d kc ks pc lo (.int i :: .ref a :: st) h Q := by
  obtain ⟨x, e, hf⟩ := ob hf
  exact pw_zald e hdg (kk x hf)
theorem q_lald {a : Nat} {i : Int32} {F : Int64 → Option α} (hf : (aL h a i).bind F = some r) (hdg : decode M.1 pc = .ok (.laload, 1)) (kk : ∀ x, F x = some r → PW g l M d kc ks (pc + 1) lo (.long x :: st) h Q) : PW g l M d kc ks pc lo (.int i :: .ref a :: st) h Q := by
  obtain ⟨x, e, hf⟩ := ob hf
  exact pw_lald e hdg (kk x hf)
theorem q_alen {a : Nat} {F : Int32 → Option α} (hf : (aN h a).bind F = some r) (hdg : decode M.1 pc = .ok (.arraylength, 1)) (kk : ∀ x, F x = some r → PW g l M d kc ks (pc + 1) lo (.int x :: st) h Q) : PW g l M d kc ks pc lo (.ref a :: st) h Q := by
  obtain ⟨x, e, hf⟩ := ob hf
  exact pw_alen e hdg (kk x hf)
def aR (h : Hp) (kd a : Nat) (i : Int32) : Option Nat := (aQ h kd a i).bind (fun x => x)
theorem q_aald {a kd : Nat} {i : Int32} {F : Nat → Option α} (hf : (aR h kd a i).bind F = some r) (hkd : kd < 6) (hty : (akT kd).isReference = true) (hdg : decode M.1 pc = .ok (.aaload, 1)) (kk : ∀ x, F x = some r → PW g l M d kc ks (pc + 1) lo (.ref x :: st) h Q) : PW g l M d kc ks pc lo (.int i :: .ref a :: st) h Q := by
  obtain ⟨x, e, hf⟩ := ob hf
  obtain ⟨y, e1, e2⟩ := ob e
  subst e2
  exact pw_aald e1 hkd hty hdg (kk x hf)
/-- one that may be null: the two ways -/
theorem q_aaldN {a kd : Nat} {i : Int32} {A B : Option α} (hf : ((aQ h kd a i).bind fun x => if x.isSome = true then A else B) = some r) (hkd : kd < 6) (hty : (akT kd).isReference = true) (hdg : decode M.1 pc = .ok (.aaload, 1)) (ks9 : ∀ x, A = some r → aR h kd a i = some x → PW g l M d kc ks (pc + 1) lo (.ref x :: st) h Q) (kn : B = some r → aQ h kd a i = some none → PW g l M d kc ks (pc + 1) lo (.null :: st) h Q) : PW g l M d kc ks pc lo (.int i :: .ref a :: st) h Q := by
  obtain ⟨x, e, hf⟩ := ob hf
  cases x with
  | none => exact pw_aald e hkd hty hdg (kn hf e)
  | some x => exact pw_aald e hkd hty hdg (ks9 x hf (by rw [aR, e]; rfl))
theorem q_iast {a : Nat} {i : Int32} {x : Int32} {F : Hp → Option α} (hf : (sI h 0 a i x).bind F = some r) (hdg : decode M.1 pc = .ok (.iastore, 1)) (kk : ∀ h', F h' = some r → PW g l M d kc ks (pc + 1) lo st h' Q) : PW g l M d kc ks pc lo (.int x :: .int i :: .ref a :: st) h Q := by
  obtain ⟨y, e, hf⟩ := ob hf
  exact pw_iast e hdg (kk y hf)
theorem q_last {a : Nat} {i : Int32} {x : Int64} {F : Hp → Option α} (hf : (sL h a i x).bind F = some r) (hdg : decode M.1 pc = .ok (.lastore, 1)) (kk : ∀ h', F h' = some r → PW g l M d kc ks (pc + 1) lo st h' Q) : PW g l M d kc ks pc lo (.long x :: .int i :: .ref a :: st) h Q := by
  obtain ⟨y, e, hf⟩ := ob hf
  exact pw_last e hdg (kk y hf)
theorem q_bast {a : Nat} {i x : Int32} {F : Hp → Option α} (hf : (sI h 1 a i (vp_nar .byte x)).bind F = some r) (hdg : decode M.1 pc = .ok (.bastore, 1)) (kk : ∀ h', F h' = some r → PW g l M d kc ks (pc + 1) lo st h' Q) : PW g l M d kc ks pc lo (.int x :: .int i :: .ref a :: st) h Q := by
  obtain ⟨y, e, hf⟩ := ob hf
  exact pw_bast rfl e hdg (kk y hf)
theorem q_zast {a : Nat} {i x : Int32} {F : Hp → Option α} (hf : (sI h 3 a i (vp_nar .boolean x)).bind F = some r) (hdg : decode M.1 pc = .ok (.bastore, 1)) (kk : ∀ h', F h' = some r → PW g l M d kc ks (pc + 1) lo st h' Q) : PW g l M d kc ks pc lo (.int x :: .int i :: .ref a :: st) h Q := by
  obtain ⟨y, e, hf⟩ := ob hf
  exact pw_zast rfl e hdg (kk y hf)
theorem q_callV_i {y : MethodName} {C : String} {T : u_T} {N ci i n maxL d' kc' ks' kc2 ks2 b : Nat} {bytes : ByteArray} {ret : Option FieldType} {ws' ws'' : List Cond} {as rest st0 : List Value} {o : Option (Int32)} {F : Int32 → Option α} {i9 : Decidable (oK h b ci = true)} (hf : @ite _ (oK h b ci = true) i9 (o.bind F) none = some r) (hM : ∀ x, o = some x → PM g l d' kc' ks' y ws' (.ref b :: as) h (fun r' h' => r' = some (.int x) ∧ h' = h)) (hG : GoodIn M.2.2.2.1 (wsV M.2.1 i C y ws')) (hw : ws' = Cond.code y bytes maxL ret :: ws'') (hd : y.cls = C ∧ y.cls ≠ "java/lang/invoke/MethodHandle" ∧ y.cls ≠ "java/lang/invoke/VarHandle" ∧ (parseMethodDescriptor y.desc).map (fun d => d.parameters.length) = some n) (hn : as.length = n) (hc : vwCl[ci]? = some (C, T, N)) (hdep : d' + 1 ≤ d ∧ maxL ≤ 21) (hcap : kc = kc' + kc2 ∧ ks = ks' + ks2) (hrest : (rest.map fun v => v.category).sum ≤ 8) (hdg : decode M.1 pc = .ok (.invokevirtual i, 3)) (hst : st0 = as.reverse ++ .ref b :: rest) (kk : ∀ x, F x = some r → PW g l M d kc2 ks2 (pc + 3) lo (.int x :: rest) h Q) : PW g l M d kc ks pc lo st0 h Q := by
  by_cases q : oK h b ci = true
  · obtain ⟨fs, hb⟩ := oK_spec q
    rw [if_pos q] at hf
    obtain ⟨x, e, hf⟩ := ob hf
    refine pw_callV (hM x e) hG hw hd hn hb hc hdep hcap hrest hdg hst (fun r' h' q => ?_)
    obtain ⟨rfl, rfl⟩ := q
    exact kk _ hf
  · rw [if_neg q] at hf; cases hf
theorem q_callS_i {y : MethodName} {i n maxL d' kc' ks' kc2 ks2 : Nat} {bytes : ByteArray} {ret : Option FieldType} {ws' ws'' : List Cond} {as rest st0 : List Value} {o : Option (Int32)} {F : Int32 → Option α} (hf : o.bind F = some r) (hM : ∀ x, o = some x → PM g l d' kc' ks' y ws' as h (fun r' h' => r' = some (.int x) ∧ h' = h)) (hG : GoodIn M.2.2.2.1 (va_wsS M.2.1 i y ws')) (hw : ws' = Cond.code y bytes maxL ret :: ws'') (hd : y.cls ≠ "java/lang/invoke/MethodHandle" ∧ y.cls ≠ "java/lang/invoke/VarHandle" ∧ (parseMethodDescriptor y.desc).map (fun d => d.parameters.length) = some n) (hn : as.length = n) (hdep : d' + 1 ≤ d ∧ maxL ≤ 21) (hcap : kc = kc' + kc2 ∧ ks = ks' + ks2) (hrest : (rest.map fun v => v.category).sum ≤ 8) (hdg : decode M.1 pc = .ok (.invokestatic i, 3)) (hst : st0 = as.reverse ++ rest) (kk : ∀ x, F x = some r → PW g l M d kc2 ks2 (pc + 3) lo (.int x :: rest) h Q) : PW g l M d kc ks pc lo st0 h Q := by
  obtain ⟨x, e, hf⟩ := ob hf
  refine pw_callS (hM x e) hG hw hd hn hdep hcap hrest hdg hst (fun r' h' q => ?_)
  obtain ⟨rfl, rfl⟩ := q
  exact kk _ hf
theorem q_callSN_i {y : MethodName} {host : String} {i n maxL d' kc' ks' kc2 ks2 : Nat} {bytes : ByteArray} {ret : Option FieldType} {ws' ws'' : List Cond} {as rest st0 : List Value} {o : Option (Int32)} {F : Int32 → Option α} (hf : o.bind F = some r) (hM : ∀ x, o = some x → PM g l d' kc' ks' y ws' as h (fun r' h' => r' = some (.int x) ∧ h' = h)) (hG : GoodIn M.2.2.2.1 ws') (hlk : Cond.methodLinkNest M.2.1 i y host ∈ nestW) (hini : Cond.initialized y.cls ∈ M.2.2.2.1) (hsta : Cond.static y ∈ M.2.2.2.1) (hw : ws' = Cond.code y bytes maxL ret :: ws'') (hd : y.cls ≠ "java/lang/invoke/MethodHandle" ∧ y.cls ≠ "java/lang/invoke/VarHandle" ∧ (parseMethodDescriptor y.desc).map (fun d => d.parameters.length) = some n) (hn : as.length = n) (hdep : d' + 1 ≤ d ∧ maxL ≤ 21) (hcap : kc = kc' + kc2 ∧ ks = ks' + ks2) (hrest : (rest.map fun v => v.category).sum ≤ 8) (hdg : decode M.1 pc = .ok (.invokestatic i, 3)) (hst : st0 = as.reverse ++ rest) (kk : ∀ x, F x = some r → PW g l M d kc2 ks2 (pc + 3) lo (.int x :: rest) h Q) : PW g l M d kc ks pc lo st0 h Q := by
  obtain ⟨x, e, hf⟩ := ob hf
  refine pw_callSN (hM x e) hG hlk hini hsta hw hd hn hdep hcap hrest hdg hst (fun r' h' q => ?_)
  obtain ⟨rfl, rfl⟩ := q
  exact kk _ hf
theorem q_callV_iw {y : MethodName} {C : String} {T : u_T} {N ci i n maxL d' kc' ks' kc2 ks2 b : Nat} {bytes : ByteArray} {ret : Option FieldType} {ws' ws'' : List Cond} {as rest st0 : List Value} {o : Option (Int32 × Hp)} {F : Int32 × Hp → Option α} {i9 : Decidable (oK h b ci = true)} (hf : @ite _ (oK h b ci = true) i9 (o.bind F) none = some r) (hM : ∀ x, o = some x → PM g l d' kc' ks' y ws' (.ref b :: as) h (fun r' h' => r' = some (.int x.1) ∧ h' = x.2)) (hG : GoodIn M.2.2.2.1 (wsV M.2.1 i C y ws')) (hw : ws' = Cond.code y bytes maxL ret :: ws'') (hd : y.cls = C ∧ y.cls ≠ "java/lang/invoke/MethodHandle" ∧ y.cls ≠ "java/lang/invoke/VarHandle" ∧ (parseMethodDescriptor y.desc).map (fun d => d.parameters.length) = some n) (hn : as.length = n) (hc : vwCl[ci]? = some (C, T, N)) (hdep : d' + 1 ≤ d ∧ maxL ≤ 21) (hcap : kc = kc' + kc2 ∧ ks = ks' + ks2) (hrest : (rest.map fun v => v.category).sum ≤ 8) (hdg : decode M.1 pc = .ok (.invokevirtual i, 3)) (hst : st0 = as.reverse ++ .ref b :: rest) (kk : ∀ x, F x = some r → PW g l M d kc2 ks2 (pc + 3) lo (.int x.1 :: rest) x.2 Q) : PW g l M d kc ks pc lo st0 h Q := by
  by_cases q : oK h b ci = true
  · obtain ⟨fs, hb⟩ := oK_spec q
    rw [if_pos q] at hf
    obtain ⟨x, e, hf⟩ := ob hf
    refine pw_callV (hM x e) hG hw hd hn hb hc hdep hcap hrest hdg hst (fun r' h' q => ?_)
    obtain ⟨rfl, rfl⟩ := q
    exact kk _ hf
  · rw [if_neg q] at hf; cases hf
theorem q_callS_iw {y : MethodName} {i n maxL d' kc' ks' kc2 ks2 : Nat} {bytes : ByteArray} {ret : Option FieldType} {ws' ws'' : List Cond} {as rest st0 : List Value} {o : Option (Int32 × Hp)} {F : Int32 × Hp → Option α} (hf : o.bind F = some r) (hM : ∀ x, o = some x → PM g l d' kc' ks' y ws' as h (fun r' h' => r' = some (.int x.1) ∧ h' = x.2)) (hG : GoodIn M.2.2.2.1 (va_wsS M.2.1 i y ws')) (hw : ws' = Cond.code y bytes maxL ret :: ws'') (hd : y.cls ≠ "java/lang/invoke/MethodHandle" ∧ y.cls ≠ "java/lang/invoke/VarHandle" ∧ (parseMethodDescriptor y.desc).map (fun d => d.parameters.length) = some n) (hn : as.length = n) (hdep : d' + 1 ≤ d ∧ maxL ≤ 21) (hcap : kc = kc' + kc2 ∧ ks = ks' + ks2) (hrest : (rest.map fun v => v.category).sum ≤ 8) (hdg : decode M.1 pc = .ok (.invokestatic i, 3)) (hst : st0 = as.reverse ++ rest) (kk : ∀ x, F x = some r → PW g l M d kc2 ks2 (pc + 3) lo (.int x.1 :: rest) x.2 Q) : PW g l M d kc ks pc lo st0 h Q := by
  obtain ⟨x, e, hf⟩ := ob hf
  refine pw_callS (hM x e) hG hw hd hn hdep hcap hrest hdg hst (fun r' h' q => ?_)
  obtain ⟨rfl, rfl⟩ := q
  exact kk _ hf
theorem q_callV_v {y : MethodName} {C : String} {T : u_T} {N ci i n maxL d' kc' ks' kc2 ks2 b : Nat} {bytes : ByteArray} {ret : Option FieldType} {ws' ws'' : List Cond} {as rest st0 : List Value} {o : Option (Hp)} {F : Hp → Option α} {i9 : Decidable (oK h b ci = true)} (hf : @ite _ (oK h b ci = true) i9 (o.bind F) none = some r) (hM : ∀ x, o = some x → PM g l d' kc' ks' y ws' (.ref b :: as) h (fun r' h' => r' = none ∧ h' = x)) (hG : GoodIn M.2.2.2.1 (wsV M.2.1 i C y ws')) (hw : ws' = Cond.code y bytes maxL ret :: ws'') (hd : y.cls = C ∧ y.cls ≠ "java/lang/invoke/MethodHandle" ∧ y.cls ≠ "java/lang/invoke/VarHandle" ∧ (parseMethodDescriptor y.desc).map (fun d => d.parameters.length) = some n) (hn : as.length = n) (hc : vwCl[ci]? = some (C, T, N)) (hdep : d' + 1 ≤ d ∧ maxL ≤ 21) (hcap : kc = kc' + kc2 ∧ ks = ks' + ks2) (hrest : (rest.map fun v => v.category).sum ≤ 8) (hdg : decode M.1 pc = .ok (.invokevirtual i, 3)) (hst : st0 = as.reverse ++ .ref b :: rest) (kk : ∀ x, F x = some r → PW g l M d kc2 ks2 (pc + 3) lo (rest) x Q) : PW g l M d kc ks pc lo st0 h Q := by
  by_cases q : oK h b ci = true
  · obtain ⟨fs, hb⟩ := oK_spec q
    rw [if_pos q] at hf
    obtain ⟨x, e, hf⟩ := ob hf
    refine pw_callV (hM x e) hG hw hd hn hb hc hdep hcap hrest hdg hst (fun r' h' q => ?_)
    obtain ⟨rfl, rfl⟩ := q
    exact kk _ hf
  · rw [if_neg q] at hf; cases hf
theorem q_callS_v {y : MethodName} {i n maxL d' kc' ks' kc2 ks2 : Nat} {bytes : ByteArray} {ret : Option FieldType} {ws' ws'' : List Cond} {as rest st0 : List Value} {o : Option (Hp)} {F : Hp → Option α} (hf : o.bind F = some r) (hM : ∀ x, o = some x → PM g l d' kc' ks' y ws' as h (fun r' h' => r' = none ∧ h' = x)) (hG : GoodIn M.2.2.2.1 (va_wsS M.2.1 i y ws')) (hw : ws' = Cond.code y bytes maxL ret :: ws'') (hd : y.cls ≠ "java/lang/invoke/MethodHandle" ∧ y.cls ≠ "java/lang/invoke/VarHandle" ∧ (parseMethodDescriptor y.desc).map (fun d => d.parameters.length) = some n) (hn : as.length = n) (hdep : d' + 1 ≤ d ∧ maxL ≤ 21) (hcap : kc = kc' + kc2 ∧ ks = ks' + ks2) (hrest : (rest.map fun v => v.category).sum ≤ 8) (hdg : decode M.1 pc = .ok (.invokestatic i, 3)) (hst : st0 = as.reverse ++ rest) (kk : ∀ x, F x = some r → PW g l M d kc2 ks2 (pc + 3) lo (rest) x Q) : PW g l M d kc ks pc lo st0 h Q := by
  obtain ⟨x, e, hf⟩ := ob hf
  refine pw_callS (hM x e) hG hw hd hn hdep hcap hrest hdg hst (fun r' h' q => ?_)
  obtain ⟨rfl, rfl⟩ := q
  exact kk _ hf
theorem q_callI_v {y : MethodName} {i n maxL d' kc' ks' kc2 ks2 b : Nat} {bytes : ByteArray} {ws' ws'' : List Cond} {as rest st0 : List Value} {o : Option Hp} {F : Hp → Option α} (hf : o.bind F = some r) (hM : ∀ x, o = some x → PM g l d' kc' ks' y ws' (.ref b :: as) h (fun r' h' => r' = none ∧ h' = x)) (hG : GoodIn M.2.2.2.1 ws') (hlk : Cond.methodLink M.2.1 i y ∈ M.2.2.2.1) (hini : Cond.initialized y.cls ∈ M.2.2.2.1) (hinst : Cond.instanceMethod y ∈ M.2.2.2.1) (hy1 : y.name = "<init>") (hw : ws' = Cond.code y bytes maxL none :: ws'') (hd : y.cls ≠ "java/lang/invoke/MethodHandle" ∧ y.cls ≠ "java/lang/invoke/VarHandle" ∧ (parseMethodDescriptor y.desc).map (fun d => d.parameters.length) = some n) (hn : as.length = n) (hdep : d' + 1 ≤ d ∧ maxL ≤ 21) (hcap : kc = kc' + kc2 ∧ ks = ks' + ks2) (hrest : (rest.map fun v => v.category).sum ≤ 8) (hdg : decode M.1 pc = .ok (.invokespecial i, 3)) (hst : st0 = as.reverse ++ .ref b :: rest) (kk : ∀ x, F x = some r → PW g l M d kc2 ks2 (pc + 3) lo (rest) x Q) : PW g l M d kc ks pc lo st0 h Q := by
  obtain ⟨x, e, hf⟩ := ob hf
  refine pw_callI (hM x e) hG hlk hini hinst hy1 hw hd hn hdep hcap hrest hdg hst (fun r' h' q => ?_)
  obtain ⟨rfl, rfl⟩ := q
  exact kk _ hf
theorem q_callIN_v {y : MethodName} {host : String} {i n maxL d' kc' ks' kc2 ks2 b : Nat} {bytes : ByteArray} {ws' ws'' : List Cond} {as rest st0 : List Value} {o : Option Hp} {F : Hp → Option α} (hf : o.bind F = some r) (hM : ∀ x, o = some x → PM g l d' kc' ks' y ws' (.ref b :: as) h (fun r' h' => r' = none ∧ h' = x)) (hG : GoodIn M.2.2.2.1 ws') (hlk : Cond.methodLinkNest M.2.1 i y host ∈ nestW) (hini : Cond.initialized y.cls ∈ M.2.2.2.1) (hinst : Cond.instanceMethod y ∈ M.2.2.2.1) (hy1 : y.name = "<init>") (hw : ws' = Cond.code y bytes maxL none :: ws'') (hd : y.cls ≠ "java/lang/invoke/MethodHandle" ∧ y.cls ≠ "java/lang/invoke/VarHandle" ∧ (parseMethodDescriptor y.desc).map (fun d => d.parameters.length) = some n) (hn : as.length = n) (hdep : d' + 1 ≤ d ∧ maxL ≤ 21) (hcap : kc = kc' + kc2 ∧ ks = ks' + ks2) (hrest : (rest.map fun v => v.category).sum ≤ 8) (hdg : decode M.1 pc = .ok (.invokespecial i, 3)) (hst : st0 = as.reverse ++ .ref b :: rest) (kk : ∀ x, F x = some r → PW g l M d kc2 ks2 (pc + 3) lo (rest) x Q) : PW g l M d kc ks pc lo st0 h Q := by
  obtain ⟨x, e, hf⟩ := ob hf
  refine pw_callIN (hM x e) hG hlk hini hinst hy1 hw hd hn hdep hcap hrest hdg hst (fun r' h' q => ?_)
  obtain ⟨rfl, rfl⟩ := q
  exact kk _ hf
theorem q_callV_a {y : MethodName} {C : String} {T : u_T} {N ci i n maxL d' kc' ks' kc2 ks2 b : Nat} {bytes : ByteArray} {ret : Option FieldType} {ws' ws'' : List Cond} {as rest st0 : List Value} {o : Option (Nat)} {F : Nat → Option α} {i9 : Decidable (oK h b ci = true)} (hf : @ite _ (oK h b ci = true) i9 (o.bind F) none = some r) (hM : ∀ x, o = some x → PM g l d' kc' ks' y ws' (.ref b :: as) h (fun r' h' => r' = some (.ref x) ∧ h' = h)) (hG : GoodIn M.2.2.2.1 (wsV M.2.1 i C y ws')) (hw : ws' = Cond.code y bytes maxL ret :: ws'') (hd : y.cls = C ∧ y.cls ≠ "java/lang/invoke/MethodHandle" ∧ y.cls ≠ "java/lang/invoke/VarHandle" ∧ (parseMethodDescriptor y.desc).map (fun d => d.parameters.length) = some n) (hn : as.length = n) (hc : vwCl[ci]? = some (C, T, N)) (hdep : d' + 1 ≤ d ∧ maxL ≤ 21) (hcap : kc = kc' + kc2 ∧ ks = ks' + ks2) (hrest : (rest.map fun v => v.category).sum ≤ 8) (hdg : decode M.1 pc = .ok (.invokevirtual i, 3)) (hst : st0 = as.reverse ++ .ref b :: rest) (kk : ∀ x, F x = some r → PW g l M d kc2 ks2 (pc + 3) lo (.ref x :: rest) h Q) : PW g l M d kc ks pc lo st0 h Q := by
  by_cases q : oK h b ci = true
  · obtain ⟨fs, hb⟩ := oK_spec q
    rw [if_pos q] at hf
    obtain ⟨x, e, hf⟩ := ob hf
    refine pw_callV (hM x e) hG hw hd hn hb hc hdep hcap hrest hdg hst (fun r' h' q => ?_)
    obtain ⟨rfl, rfl⟩ := q
    exact kk _ hf
  · rw [if_neg q] at hf; cases hf
theorem q_callS_a {y : MethodName} {i n maxL d' kc' ks' kc2 ks2 : Nat} {bytes : ByteArray} {ret : Option FieldType} {ws' ws'' : List Cond} {as rest st0 : List Value} {o : Option (Nat)} {F : Nat → Option α} (hf : o.bind F = some r) (hM : ∀ x, o = some x → PM g l d' kc' ks' y ws' as h (fun r' h' => r' = some (.ref x) ∧ h' = h)) (hG : GoodIn M.2.2.2.1 (va_wsS M.2.1 i y ws')) (hw : ws' = Cond.code y bytes maxL ret :: ws'') (hd : y.cls ≠ "java/lang/invoke/MethodHandle" ∧ y.cls ≠ "java/lang/invoke/VarHandle" ∧ (parseMethodDescriptor y.desc).map (fun d => d.parameters.length) = some n) (hn : as.length = n) (hdep : d' + 1 ≤ d ∧ maxL ≤ 21) (hcap : kc = kc' + kc2 ∧ ks = ks' + ks2) (hrest : (rest.map fun v => v.category).sum ≤ 8) (hdg : decode M.1 pc = .ok (.invokestatic i, 3)) (hst : st0 = as.reverse ++ rest) (kk : ∀ x, F x = some r → PW g l M d kc2 ks2 (pc + 3) lo (.ref x :: rest) h Q) : PW g l M d kc ks pc lo st0 h Q := by
  obtain ⟨x, e, hf⟩ := ob hf
  refine pw_callS (hM x e) hG hw hd hn hdep hcap hrest hdg hst (fun r' h' q => ?_)
  obtain ⟨rfl, rfl⟩ := q
  exact kk _ hf
theorem q_callV_aw {y : MethodName} {C : String} {T : u_T} {N ci i n maxL d' kc' ks' kc2 ks2 b : Nat} {bytes : ByteArray} {ret : Option FieldType} {ws' ws'' : List Cond} {as rest st0 : List Value} {o : Option (Nat × Hp)} {F : Nat × Hp → Option α} {i9 : Decidable (oK h b ci = true)} (hf : @ite _ (oK h b ci = true) i9 (o.bind F) none = some r) (hM : ∀ x, o = some x → PM g l d' kc' ks' y ws' (.ref b :: as) h (fun r' h' => r' = some (.ref x.1) ∧ h' = x.2)) (hG : GoodIn M.2.2.2.1 (wsV M.2.1 i C y ws')) (hw : ws' = Cond.code y bytes maxL ret :: ws'') (hd : y.cls = C ∧ y.cls ≠ "java/lang/invoke/MethodHandle" ∧ y.cls ≠ "java/lang/invoke/VarHandle" ∧ (parseMethodDescriptor y.desc).map (fun d => d.parameters.length) = some n) (hn : as.length = n) (hc : vwCl[ci]? = some (C, T, N)) (hdep : d' + 1 ≤ d ∧ maxL ≤ 21) (hcap : kc = kc' + kc2 ∧ ks = ks' + ks2) (hrest : (rest.map fun v => v.category).sum ≤ 8) (hdg : decode M.1 pc = .ok (.invokevirtual i, 3)) (hst : st0 = as.reverse ++ .ref b :: rest) (kk : ∀ x, F x = some r → PW g l M d kc2 ks2 (pc + 3) lo (.ref x.1 :: rest) x.2 Q) : PW g l M d kc ks pc lo st0 h Q := by
  by_cases q : oK h b ci = true
  · obtain ⟨fs, hb⟩ := oK_spec q
    rw [if_pos q] at hf
    obtain ⟨x, e, hf⟩ := ob hf
    refine pw_callV (hM x e) hG hw hd hn hb hc hdep hcap hrest hdg hst (fun r' h' q => ?_)
    obtain ⟨rfl, rfl⟩ := q
    exact kk _ hf
  · rw [if_neg q] at hf; cases hf
theorem q_callS_aw {y : MethodName} {i n maxL d' kc' ks' kc2 ks2 : Nat} {bytes : ByteArray} {ret : Option FieldType} {ws' ws'' : List Cond} {as rest st0 : List Value} {o : Option (Nat × Hp)} {F : Nat × Hp → Option α} (hf : o.bind F = some r) (hM : ∀ x, o = some x → PM g l d' kc' ks' y ws' as h (fun r' h' => r' = some (.ref x.1) ∧ h' = x.2)) (hG : GoodIn M.2.2.2.1 (va_wsS M.2.1 i y ws')) (hw : ws' = Cond.code y bytes maxL ret :: ws'') (hd : y.cls ≠ "java/lang/invoke/MethodHandle" ∧ y.cls ≠ "java/lang/invoke/VarHandle" ∧ (parseMethodDescriptor y.desc).map (fun d => d.parameters.length) = some n) (hn : as.length = n) (hdep : d' + 1 ≤ d ∧ maxL ≤ 21) (hcap : kc = kc' + kc2 ∧ ks = ks' + ks2) (hrest : (rest.map fun v => v.category).sum ≤ 8) (hdg : decode M.1 pc = .ok (.invokestatic i, 3)) (hst : st0 = as.reverse ++ rest) (kk : ∀ x, F x = some r → PW g l M d kc2 ks2 (pc + 3) lo (.ref x.1 :: rest) x.2 Q) : PW g l M d kc ks pc lo st0 h Q := by
  obtain ⟨x, e, hf⟩ := ob hf
  refine pw_callS (hM x e) hG hw hd hn hdep hcap hrest hdg hst (fun r' h' q => ?_)
  obtain ⟨rfl, rfl⟩ := q
  exact kk _ hf
theorem q_callV_l {y : MethodName} {C : String} {T : u_T} {N ci i n maxL d' kc' ks' kc2 ks2 b : Nat} {bytes : ByteArray} {ret : Option FieldType} {ws' ws'' : List Cond} {as rest st0 : List Value} {o : Option (Int64)} {F : Int64 → Option α} {i9 : Decidable (oK h b ci = true)} (hf : @ite _ (oK h b ci = true) i9 (o.bind F) none = some r) (hM : ∀ x, o = some x → PM g l d' kc' ks' y ws' (.ref b :: as) h (fun r' h' => r' = some (.long x) ∧ h' = h)) (hG : GoodIn M.2.2.2.1 (wsV M.2.1 i C y ws')) (hw : ws' = Cond.code y bytes maxL ret :: ws'') (hd : y.cls = C ∧ y.cls ≠ "java/lang/invoke/MethodHandle" ∧ y.cls ≠ "java/lang/invoke/VarHandle" ∧ (parseMethodDescriptor y.desc).map (fun d => d.parameters.length) = some n) (hn : as.length = n) (hc : vwCl[ci]? = some (C, T, N)) (hdep : d' + 1 ≤ d ∧ maxL ≤ 21) (hcap : kc = kc' + kc2 ∧ ks = ks' + ks2) (hrest : (rest.map fun v => v.category).sum ≤ 8) (hdg : decode M.1 pc = .ok (.invokevirtual i, 3)) (hst : st0 = as.reverse ++ .ref b :: rest) (kk : ∀ x, F x = some r → PW g l M d kc2 ks2 (pc + 3) lo (.long x :: rest) h Q) : PW g l M d kc ks pc lo st0 h Q := by
  by_cases q : oK h b ci = true
  · obtain ⟨fs, hb⟩ := oK_spec q
    rw [if_pos q] at hf
    obtain ⟨x, e, hf⟩ := ob hf
    refine pw_callV (hM x e) hG hw hd hn hb hc hdep hcap hrest hdg hst (fun r' h' q => ?_)
    obtain ⟨rfl, rfl⟩ := q
    exact kk _ hf
  · rw [if_neg q] at hf; cases hf
theorem q_callS_l {y : MethodName} {i n maxL d' kc' ks' kc2 ks2 : Nat} {bytes : ByteArray} {ret : Option FieldType} {ws' ws'' : List Cond} {as rest st0 : List Value} {o : Option (Int64)} {F : Int64 → Option α} (hf : o.bind F = some r) (hM : ∀ x, o = some x → PM g l d' kc' ks' y ws' as h (fun r' h' => r' = some (.long x) ∧ h' = h)) (hG : GoodIn M.2.2.2.1 (va_wsS M.2.1 i y ws')) (hw : ws' = Cond.code y bytes maxL ret :: ws'') (hd : y.cls ≠ "java/lang/invoke/MethodHandle" ∧ y.cls ≠ "java/lang/invoke/VarHandle" ∧ (parseMethodDescriptor y.desc).map (fun d => d.parameters.length) = some n) (hn : as.length = n) (hdep : d' + 1 ≤ d ∧ maxL ≤ 21) (hcap : kc = kc' + kc2 ∧ ks = ks' + ks2) (hrest : (rest.map fun v => v.category).sum ≤ 8) (hdg : decode M.1 pc = .ok (.invokestatic i, 3)) (hst : st0 = as.reverse ++ rest) (kk : ∀ x, F x = some r → PW g l M d kc2 ks2 (pc + 3) lo (.long x :: rest) h Q) : PW g l M d kc ks pc lo st0 h Q := by
  obtain ⟨x, e, hf⟩ := ob hf
  refine pw_callS (hM x e) hG hw hd hn hdep hcap hrest hdg hst (fun r' h' q => ?_)
  obtain ⟨rfl, rfl⟩ := q
  exact kk _ hf
end PWQ
