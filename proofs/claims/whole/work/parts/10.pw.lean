/-- the links to private members of nest mates, out of the tables -/
def nestW : List Cond := [.fieldLinkNest "TwinRows$Draws" (20 : Nat) "TwinRows$Frame" "cells" "I" "TwinRows", .fieldLinkNest "TwinRows$Fillings" (93 : Nat) "TwinRows$Frame" "cells" "I" "TwinRows", .fieldLinkNest "TwinRows$Reader" (101 : Nat) "TwinRows$Frame" "cells" "I" "TwinRows", .fieldLinkNest "TwinRows" (115 : Nat) "TwinRows$Frame" "cells" "I" "TwinRows", .fieldLinkNest "TwinRows" (118 : Nat) "TwinRows$Frame" "holes" "I" "TwinRows", .fieldLinkNest "TwinRows$Fillings" (74 : Nat) "TwinRows$Frame" "pairs" "I" "TwinRows", .fieldLinkNest "TwinRows$Draws" (43 : Nat) "TwinRows$Frame" "pairs" "I" "TwinRows", .fieldLinkNest "TwinRows$Reader" (107 : Nat) "TwinRows$Frame" "pairs" "I" "TwinRows", .fieldLinkNest "TwinRows" (121 : Nat) "TwinRows$Frame" "pairs" "I" "TwinRows", .fieldLinkNest "TwinRows$Fillings" (83 : Nat) "TwinRows$Frame" "pins" "[I" "TwinRows", .fieldLinkNest "TwinRows$Draws" (54 : Nat) "TwinRows$Frame" "pins" "[I" "TwinRows", .fieldLinkNest "TwinRows" (139 : Nat) "TwinRows$Frame" "pins" "[I" "TwinRows", .fieldLinkNest "TwinRows" (91 : Nat) "TwinRows$Reader" "draft" "LTwinRows$Frame;" "TwinRows", .fieldLinkNest "TwinRows" (88 : Nat) "TwinRows$Reader" "fault" "I" "TwinRows", .fieldLinkNest "TwinRows" (132 : Nat) "TwinRows$History" "size" "I" "TwinRows", .fieldLinkNest "TwinRows" (212 : Nat) "TwinRows$Draws" "seed" "I" "TwinRows", .fieldLinkNest "TwinRows" (182 : Nat) "TwinRows$Fillings" "firsts" "[[I" "TwinRows", .fieldLinkNest "TwinRows" (222 : Nat) "TwinRows$Fillings" "isCounted" "Z" "TwinRows", .fieldLinkNest "TwinRows" (146 : Nat) "TwinRows$Fillings" "count" "I" "TwinRows", .fieldLinkNest "TwinRows" (172 : Nat) "TwinRows$Look" "places" "I" "TwinRows", .methodLinkNest "TwinRows" (19 : Nat) ({ cls := "TwinRows$Reader", name := "<init>", desc := "()V" } : MethodName) "TwinRows", .methodLinkNest "TwinRows$Reader" (11 : Nat) ({ cls := "TwinRows$Frame", name := "<init>", desc := "()V" } : MethodName) "TwinRows", .methodLinkNest "TwinRows" (29 : Nat) ({ cls := "TwinRows$Frame", name := "<init>", desc := "()V" } : MethodName) "TwinRows", .methodLinkNest "TwinRows" (39 : Nat) ({ cls := "TwinRows$History", name := "<init>", desc := "()V" } : MethodName) "TwinRows", .methodLinkNest "TwinRows" (50 : Nat) ({ cls := "TwinRows$Draws", name := "<init>", desc := "()V" } : MethodName) "TwinRows", .methodLinkNest "TwinRows" (72 : Nat) ({ cls := "TwinRows$Look", name := "<init>", desc := "()V" } : MethodName) "TwinRows", .methodLinkNest "TwinRows$Frame" (41 : Nat) ({ cls := "TwinRows", name := "bit", desc := "(I)I" } : MethodName) "TwinRows", .methodLinkNest "TwinRows$History" (24 : Nat) ({ cls := "TwinRows$Frame", name := "<init>", desc := "()V" } : MethodName) "TwinRows", .methodLinkNest "TwinRows$Fillings" (99 : Nat) ({ cls := "TwinRows", name := "bit", desc := "(I)I" } : MethodName) "TwinRows", .declares ⟨"java/lang/RuntimeException", "<init>", "()V"⟩, .declares ⟨"java/lang/Exception", "<init>", "()V"⟩, .declares ⟨"java/lang/Throwable", "<init>", "()V"⟩]
/-! THE MACHINE, MADE SMALL: a heap of logical addresses (cell k is the machine's cell z + k), a judgement PW at an instruction, PM of a method -/
abbrev PE : Type := (Nat × vp_A) ⊕ (Nat × List Value)
abbrev Hp : Type := Nat × (Nat → Option PE)
/-- the base; the classes' numbers and slots; the array classes; what lies outside: texts 0 to 3, their bytes 4 to 7, a formatter 8 -/
abbrev GT : Type := Nat × va_G × (Nat → ClassId) × (Nat → Option Nat)
def trV (g : GT) : Value → Value
  | .ref k => .ref (g.1 + k)
  | .float u => va_rf (g.2.2.2 u.toNat)
  | v => v
def trQ (g : GT) (f : Nat → Option Nat) : Nat → Option Nat := fun i => (f i).map (fun k => g.1 + k)
def trC (g : GT) : ((Nat → Int32) ⊕ (Nat → Int64) ⊕ (Nat → UInt32) ⊕ (Nat → UInt64) ⊕ (Nat → Option Nat)) → ((Nat → Int32) ⊕ (Nat → Int64) ⊕ (Nat → UInt32) ⊕ (Nat → UInt64) ⊕ (Nat → Option Nat))
  | .inr (.inr (.inr (.inr f))) => .inr (.inr (.inr (.inr (trQ g f))))
  | x => x
def trE (g : GT) : PE → va_E
  | .inl (k, n, a) => .inl (g.2.2.1 k, n, trC g a)
  | .inr (ci, fs) => .inr (ci, fs.map (trV g))
/-- the kinds of arrays: 0 int, 1 byte, 2 long, 3 boolean, 4 Frame, 5 rows of ints -/
def akT : Nat → FieldType
  | 0 => .int
  | 1 => .byte
  | 2 => .long
  | 3 => .boolean
  | 4 => .object "TwinRows$Frame"
  | _ => .array .int
def REL (g : GT) (h : Hp) (H : Heap) : Prop := H.size = g.1 + h.1 ∧ ∀ (k : Nat) (e : PE), h.2 k = some e → va_at g.2.1 vwCl (g.1 + k, trE g e) H
def hset (h : Hp) (a : Nat) (e : PE) : Hp := (h.1, fun k => if k = a then some e else h.2 k)
def hpush (h : Hp) (e : PE) : Hp := (h.1 + 1, fun k => if k = h.1 then some e else h.2 k)
def sIdx (i : Nat) : Nat := [70, 83, 88, 93].getD i 0
def sTxt (i : Nat) : String := ["cells", "hole", "pair", "at"].getD i ""
def sLen : List Nat := [5, 4, 4, 2]
def sByt : List (List Int32) := [[99, 101, 108, 108, 115], [104, 111, 108, 101], [112, 97, 105, 114], [97, 116]]
/-- the script, as the numbers 10 (its length) and 11 on (its ints) of what lies outside; 9 is its place -/
def scL (g : GT) : Nat := (g.2.2.2 10).getD 0
def scX (g : GT) (j : Nat) : Int32 := (UInt32.ofNat ((g.2.2.2 (11 + j)).getD 0)).toInt32
/-- what lies outside, in a heap -/
def XT (g : GT) (U : State) (H : Heap) : Prop := vk_S 4 sLen sByt (fun i => (g.2.2.2 i).getD 0) (fun i => (g.2.2.2 (i + 4)).getD 0) (fun q => g.1 ≤ q) U H ∧ va_Z "java/lang/String" "COMPACT_STRINGS" "Z" (.int 1) (fun q => g.1 ≤ q) U H ∧ va_Z "jdk/internal/util/Preconditions" "SIOOBE_FORMATTER" "Ljava/util/function/BiFunction;" (va_rf (g.2.2.2 8)) (fun q => g.1 ≤ q) U H ∧ vx_Zq Bundle.tN "UNASSIGNED_STACK" Bundle.steD (fun q => g.1 ≤ q) U H ∧ vx_Zq Bundle.tN "SUPPRESSED_SENTINEL" Bundle.listD (fun q => g.1 ≤ q) U H ∧ ∃ b, g.2.2.2 9 = some b ∧ b < g.1 ∧ va_X b (scL g) (scX g) U H
theorem XT.moved {g : GT} {u U : State} {H : Heap} (hvm : u.vm.Alike U.vm) (h : XT g u H) : XT g U H := ⟨h.1.moved hvm, h.2.1.moved hvm, h.2.2.1.moved hvm, h.2.2.2.1.moved hvm, h.2.2.2.2.1.moved hvm, by obtain ⟨b, e1, e2, e3⟩ := h.2.2.2.2.2; exact ⟨b, e1, e2, e3.moved hvm⟩⟩
theorem XT.kept {g : GT} {U : State} {H H1 : Heap} (h : XT g U H) (hq : ∀ a : Nat, a < H.size → ¬ g.1 ≤ a → H1[a]? = H[a]?) : XT g U H1 := ⟨h.1.kept hq, h.2.1.kept hq, h.2.2.1.kept hq, h.2.2.2.1.kept hq, h.2.2.2.2.1.kept hq, by
  obtain ⟨b, e1, e2, e3⟩ := h.2.2.2.2.2
  refine ⟨b, e1, e2, e3.kept (hq b ?_ (Nat.not_le.mpr e2))⟩
  obtain ⟨scr, h1, -⟩ := e3
  exact (Array.getElem?_eq_some_iff.mp h1).1⟩
def KX (g : GT) (U : State) : Prop := va_K g.2.1 vwCl [] U ∧ (∀ k, k < 6 → ArrOfT U (g.2.2.1 k) (akT k) ∧ va_RA U (g.2.2.1 k) (akT k)) ∧ (∀ w ∈ nestW, va_Nw w U) ∧ (va_AOA .int U ∧ va_AO "TwinRows$Frame" U) ∧ (∀ i, i < 4 → ((g.2.2.2 i).isSome = true ∧ (g.2.2.2 (i + 4)).isSome = true) ∧ vk_R "TwinRows$Reader" (sIdx i) (sTxt i) ((g.2.2.2 i).getD 0) U) ∧ XT g U U.heap
theorem nest_or : ∀ w ∈ nestW, (∃ a i b n d e, w = .fieldLinkNest a i b n d e) ∨ (∃ a i x e, w = .methodLinkNest a i x e) ∨ ∃ x, w = .declares x := by
  intro w hw
  simp only [nestW, List.mem_cons, List.mem_nil_iff, or_false] at hw
  rcases hw with rfl | rfl | rfl | rfl | rfl | rfl | rfl | rfl | rfl | rfl | rfl | rfl | rfl | rfl | rfl | rfl | rfl | rfl | rfl | rfl | rfl | rfl | rfl | rfl | rfl | rfl | rfl | rfl | rfl | rfl | rfl | rfl <;> first | exact Or.inl ⟨_, _, _, _, _, _, rfl⟩ | exact Or.inr (Or.inl ⟨_, _, _, _, rfl⟩) | exact Or.inr (Or.inr ⟨_, rfl⟩)
theorem KX.moved {g : GT} {u U : State} (hW : u.WarmedH U.vm) (hq : ∀ a : Nat, a < u.heap.size → ¬ g.1 ≤ a → U.heap[a]? = u.heap[a]?) (h : KX g u) : KX g U := by
  refine ⟨va_K.moved hW.alike h.1, fun k hk => ⟨arrOfT_moved hW.alike (h.2.1 k hk).1, (h.2.1 k hk).2.moved hW.alike⟩, fun w hw => ?_, ⟨over_moved (a := #[]) (a' := #[]) hW.alike h.2.2.2.1.1, h.2.2.2.1.2.moved hW.alike⟩, fun i hi => ⟨(h.2.2.2.2.1 i hi).1, (h.2.2.2.2.1 i hi).2.warm hW⟩, (h.2.2.2.2.2.moved hW.alike).kept hq⟩
  have h1 := h.2.2.1 w hw
  rcases nest_or w hw with ⟨a, i, b, n, d, e, rfl⟩ | ⟨a, i, x, e, rfl⟩ | ⟨x, rfl⟩
  · exact va_Nw.warmF hW h1
  · exact va_Nw.warmM hW h1
  · exact va_Nw.warmD hW h1
theorem KX.same {g : GT} {U V : State} (hv : V.vm = U.vm) (hh : V.heap = U.heap) (h : KX g U) : KX g V := by
  have ha : U.vm.Alike V.vm := by rw [hv]; exact Vm.Alike.refl _
  refine ⟨va_K.moved ha h.1, fun k hk => ⟨arrOfT_moved ha (h.2.1 k hk).1, (h.2.1 k hk).2.moved ha⟩, fun w hw => ?_, ⟨over_moved (a := #[]) (a' := #[]) ha h.2.2.2.1.1, h.2.2.2.1.2.moved ha⟩, fun i hi => ⟨(h.2.2.2.2.1 i hi).1, (h.2.2.2.2.1 i hi).2.same hv⟩, by rw [hh]; exact h.2.2.2.2.2.moved ha⟩
  have h1 := h.2.2.1 w hw
  have h2 : ∀ w ∈ nestW, w.onTables = true := by decide +kernel
  exact va_Nw.same (h2 w hw) hv.symm h1
/-- a method: its code, its class, its name, its words, its locals, its answer's type -/
abbrev MD : Type := ByteArray × String × String × List Cond × Nat × Option FieldType
def CX (g : GT) (M : MD) (p : Program) (s : State) (m : MethodId) (args : Array Value) (meth : Method) (c : Code) : Prop :=
  p.tables.exec = Jvm.exec ∧ c.code = M.1 ∧ c.maxLocals = M.2.2.2.2.1 ∧ s.vm.findClass M.2.1 = some m.cls ∧ (∀ w ∈ M.2.2.2.1, w.before args s = true) ∧ KX g s ∧ meth.sig.returnType = M.2.2.2.2.2 ∧ meth.locks = false ∧ meth.name = M.2.2.1
def lvR (g : GT) (ls : Array Slot) (nL : Nat) (lo : List (Option Value)) : Prop := ls.size = nL ∧ lv_wf ls ∧ ∀ (i : Nat) (v : Value), lo[i]? = some (some v) → ls[i]? = some (.val (trV g v))
def PcOf (g : GT) (as : List Value) (h : Hp) : Array Value → State → Prop := fun v U => v = (as.map (trV g)).toArray ∧ REL g h U.heap ∧ KX g U
def QcOf (g : GT) (Q : Option Value → Hp → Prop) : Array Value → State → Outcome → State → Prop := fun _ st oc t => (∃ (r : Option Value) (h' : Hp), oc = .returned (r.map (trV g)) ∧ Q r h' ∧ REL g h' t.heap) ∧ va_F (fun q => g.1 ≤ q) st t
def PM (g : GT) (l : Launch) (d kc ks : Nat) (y : MethodName) (ws : List Cond) (as : List Value) (h : Hp) (Q : Option Value → Hp → Prop) : Prop :=
  Met l y ws { frames := d, cells := kc, slots := ks, locals := 40 * d } (PcOf g as h) (QcOf g Q) kc ks (fun q => g.1 ≤ q)
def PW (g : GT) (l : Launch) (M : MD) (d kc ks pc : Nat) (lo : List (Option Value)) (st : List Value) (h : Hp) (Q : Option Value → Hp → Prop) : Prop :=
  ∀ (p : Program) (e : Env) (R : Room) (s : State) (m : MethodId) (args : Array Value) (below : List Frame) (meth : Method) (c : Code) (H : Heap) (locs : List Loc) (cells slots : Nat) (ls : Array Slot),
    CX g M p s m args meth c → (d ≤ R.frames ∧ 40 * d ≤ R.locals ∧ cells + kc ≤ R.cells ∧ slots + ks ≤ R.slots) → lvR g ls M.2.2.2.2.1 lo → REL g h H → va_S (fun q => g.1 ≤ q) s.heap H locs → g.1 ≤ s.heap.size →
    W p l e R s m args below meth c H locs cells slots (MQ below (QcOf g Q) args s (cells + kc) (slots + ks) (fun q => g.1 ≤ q)) (F0 m pc ls (st.map (trV g)))
theorem rf_cat (r : Option Nat) : (va_rf r).category = 1 := by cases r <;> rfl
theorem trV_cat (g : GT) (v : Value) : (trV g v).category = v.category := by cases v <;> first | rfl | exact rf_cat _
theorem REL.put {g : GT} {h : Hp} {H H1 : Heap} {a : Nat} {e : PE} (hR : REL g h H) (z : H1.size = H.size) (o : ∀ q : Nat, q ≠ g.1 + a → H1[q]? = H[q]?) (hn : va_at g.2.1 vwCl (g.1 + a, trE g e) H1) : REL g (hset h a e) H1 := by
  refine ⟨z.trans hR.1, fun k e' hk => ?_⟩
  by_cases hka : k = a
  · subst hka
    simp only [hset, if_pos] at hk
    cases hk
    exact hn
  · simp only [hset, if_neg hka] at hk
    exact (hR.2 k e' hk).kept (o _ (by show g.1 + k ≠ g.1 + a; omega))
theorem REL.push {g : GT} {h : Hp} {H H1 : Heap} {e : PE} (hR : REL g h H) (z : H1.size = g.1 + h.1 + 1) (o : ∀ q : Nat, q < g.1 + h.1 → H1[q]? = H[q]?) (hn : va_at g.2.1 vwCl (g.1 + h.1, trE g e) H1) : REL g (hpush h e) H1 := by
  refine ⟨by rw [z]; simp only [hpush]; omega, fun k e' hk => ?_⟩
  by_cases hka : k = h.1
  · subst hka
    simp only [hpush, if_pos] at hk
    cases hk
    exact hn
  · simp only [hpush, if_neg hka] at hk
    have h1 := hR.2 k e' hk
    have h2 := h1.lt
    rw [hR.1] at h2
    exact h1.kept (o _ h2)
/-! the locals -/
def clr : Option Value → Option Value
  | some (.long _) => none
  | some (.double _) => none
  | w => w
def lset : List (Option Value) → Nat → Value → List (Option Value)
  | [], _, _ => []
  | _ :: t, 0, v => some v :: t
  | w :: [], 1, _ => [clr w]
  | w :: _ :: t, 1, v => clr w :: some v :: t
  | w :: t, n + 2, v => w :: lset t (n + 1) v
def lset2 : List (Option Value) → Nat → Value → List (Option Value)
  | [], _, _ => []
  | _ :: [], 0, v => [some v]
  | _ :: _ :: t, 0, v => some v :: none :: t
  | w :: [], 1, _ => [clr w]
  | w :: _ :: [], 1, v => clr w :: some v :: []
  | w :: _ :: _ :: t, 1, v => clr w :: some v :: none :: t
  | w :: t, n + 2, v => w :: lset2 t (n + 1) v
theorem clr_spec {w : Option Value} {v : Value} (h : clr w = some v) : w = some v ∧ v.category = 1 := by
  cases w with
  | none => simp [clr] at h
  | some x => cases x <;> simp [clr] at h <;> subst h <;> exact ⟨rfl, rfl⟩
theorem lset_spec : ∀ (lo : List (Option Value)) (i : Nat) (v : Value) (j : Nat) (w : Value), (lset lo i v)[j]? = some (some w) → (j = i ∧ w = v) ∨ (j ≠ i ∧ lo[j]? = some (some w) ∧ ¬ (j + 1 = i ∧ w.category = 2))
  | [], i, v, j, w, h => by simp [lset] at h
  | x :: t, 0, v, j, w, h => by
    cases j with
    | zero => simp [lset] at h; exact Or.inl ⟨rfl, h.symm⟩
    | succ j => simp [lset] at h; exact Or.inr ⟨by omega, by simpa using h, by omega⟩
  | x :: [], 1, v, j, w, h => by
    cases j with
    | zero => simp [lset] at h; obtain ⟨h1, h2⟩ := clr_spec h; exact Or.inr ⟨by omega, by simp [h1], by omega⟩
    | succ j => simp [lset] at h
  | x :: y :: t, 1, v, j, w, h => by
    match j with
    | 0 => simp [lset] at h; obtain ⟨h1, h2⟩ := clr_spec h; exact Or.inr ⟨by omega, by simp [h1], by omega⟩
    | 1 => simp [lset] at h; exact Or.inl ⟨rfl, h.symm⟩
    | j + 2 => simp [lset] at h; exact Or.inr ⟨by omega, by simpa using h, by omega⟩
  | x :: t, n + 2, v, j, w, h => by
    cases j with
    | zero => simp [lset] at h; exact Or.inr ⟨by omega, by simp [h], by omega⟩
    | succ j =>
      simp [lset] at h
      rcases lset_spec t (n + 1) v j w h with ⟨h1, h2⟩ | ⟨h1, h2, h3⟩
      · exact Or.inl ⟨by omega, h2⟩
      · exact Or.inr ⟨by omega, by simpa using h2, by omega⟩
theorem lset2_spec : ∀ (lo : List (Option Value)) (i : Nat) (v : Value) (j : Nat) (w : Value), (lset2 lo i v)[j]? = some (some w) → (j = i ∧ w = v) ∨ (j ≠ i ∧ j ≠ i + 1 ∧ lo[j]? = some (some w) ∧ ¬ (j + 1 = i ∧ w.category = 2))
  | [], i, v, j, w, h => by simp [lset2] at h
  | x :: [], 0, v, j, w, h => by
    cases j with
    | zero => simp [lset2] at h; exact Or.inl ⟨rfl, h.symm⟩
    | succ j => simp [lset2] at h
  | x :: y :: t, 0, v, j, w, h => by
    match j with
    | 0 => simp [lset2] at h; exact Or.inl ⟨rfl, h.symm⟩
    | 1 => simp [lset2] at h
    | j + 2 => simp [lset2] at h; exact Or.inr ⟨by omega, by omega, by simpa using h, by omega⟩
  | x :: [], 1, v, j, w, h => by
    cases j with
    | zero => simp [lset2] at h; obtain ⟨h1, h2⟩ := clr_spec h; exact Or.inr ⟨by omega, by omega, by simp [h1], by omega⟩
    | succ j => simp [lset2] at h
  | x :: y :: [], 1, v, j, w, h => by
    match j with
    | 0 => simp [lset2] at h; obtain ⟨h1, h2⟩ := clr_spec h; exact Or.inr ⟨by omega, by omega, by simp [h1], by omega⟩
    | 1 => simp [lset2] at h; exact Or.inl ⟨rfl, h.symm⟩
    | j + 2 => simp [lset2] at h
  | x :: y :: u :: t, 1, v, j, w, h => by
    match j with
    | 0 => simp [lset2] at h; obtain ⟨h1, h2⟩ := clr_spec h; exact Or.inr ⟨by omega, by omega, by simp [h1], by omega⟩
    | 1 => simp [lset2] at h; exact Or.inl ⟨rfl, h.symm⟩
    | 2 => simp [lset2] at h
    | j + 3 => simp [lset2] at h; exact Or.inr ⟨by omega, by omega, by simpa using h, by omega⟩
  | x :: t, n + 2, v, j, w, h => by
    cases j with
    | zero => simp [lset2] at h; exact Or.inr ⟨by omega, by omega, by simp [h], by omega⟩
    | succ j =>
      simp [lset2] at h
      rcases lset2_spec t (n + 1) v j w h with ⟨h1, h2⟩ | ⟨h1, h2, h3, h4⟩
      · exact Or.inl ⟨by omega, h2⟩
      · exact Or.inr ⟨by omega, by omega, by simpa using h3, by omega⟩
def lvL (g : GT) (lo : List (Option Value)) : List (Nat × Value) := (List.range lo.length).filterMap (fun j => match lo[j]? with
  | some (some w) => some (j, trV g w)
  | _ => none)
theorem lvL_mem {g : GT} {lo : List (Option Value)} {j : Nat} {w : Value} (h : lo[j]? = some (some w)) : (j, trV g w) ∈ lvL g lo := by
  refine List.mem_filterMap.mpr ⟨j, List.mem_range.mpr (List.getElem?_eq_some_iff.mp h).1, ?_⟩
  simp [h]
theorem lvL_has {g : GT} {ls : Array Slot} {nL : Nat} {lo : List (Option Value)} (h : lvR g ls nL lo) : lv_has ls nL (lvL g lo) := by
  refine ⟨h.1, h.2.1, fun q hq => ?_⟩
  obtain ⟨j, -, hj⟩ := List.mem_filterMap.mp hq
  cases hl : lo[j]? with
  | none => simp [hl] at hj
  | some o =>
    cases o with
    | none => simp [hl] at hj
    | some w =>
      simp [hl] at hj
      subst hj
      exact h.2.2 j w hl
theorem lvR_store1 {g : GT} {ls : Array Slot} {nL : Nat} {lo : List (Option Value)} {i : Nat} {v : Value} (h : lvR g ls nL lo) {ls' : Array Slot} (h' : lv_has ls' nL ((i, trV g v) :: (lvL g lo).filter (fun q => !(q.1 == i) && !(q.1 + 1 == i && q.2.category == 2)))) : lvR g ls' nL (lset lo i v) := by
  refine ⟨h'.1, h'.2.1, fun j w hj => ?_⟩
  rcases lset_spec lo i v j w hj with ⟨rfl, rfl⟩ | ⟨h1, h2, h3⟩
  · exact h'.2.2 (j, trV g w) List.mem_cons_self
  · refine h'.2.2 (j, trV g w) (List.mem_cons_of_mem _ (List.mem_filter.mpr ⟨lvL_mem h2, ?_⟩))
    rw [trV_cat]
    by_cases e1 : j + 1 = i
    · have : ¬ w.category = 2 := fun q => h3 ⟨e1, q⟩
      simp [h1, this]
    · simp [h1, e1]
theorem lvR_store2 {g : GT} {ls : Array Slot} {nL : Nat} {lo : List (Option Value)} {i : Nat} {v : Value} (h : lvR g ls nL lo) {ls' : Array Slot} (h' : lv_has ls' nL ((i, trV g v) :: (lvL g lo).filter (fun q => !(q.1 == i) && (!(q.1 == i + 1) && !(q.1 + 1 == i && q.2.category == 2))))) : lvR g ls' nL (lset2 lo i v) := by
  refine ⟨h'.1, h'.2.1, fun j w hj => ?_⟩
  rcases lset2_spec lo i v j w hj with ⟨rfl, rfl⟩ | ⟨h1, h1b, h2, h3⟩
  · exact h'.2.2 (j, trV g w) List.mem_cons_self
  · refine h'.2.2 (j, trV g w) (List.mem_cons_of_mem _ (List.mem_filter.mpr ⟨lvL_mem h2, ?_⟩))
    rw [trV_cat]
    by_cases e1 : j + 1 = i
    · have : ¬ w.category = 2 := fun q => h3 ⟨e1, q⟩
      simp [h1, h1b, this]
    · simp [h1, h1b, e1]
