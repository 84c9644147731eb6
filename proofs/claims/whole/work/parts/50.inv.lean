/-! THE INVARIANT: what class and model hold of one state -/
/-- a frame: cells, holes, pairs, pins -/
abbrev Fm : Type := Nat × Nat × Nat × (Nat → Nat)
def WFf (F : Fm) : Prop := WF F.1 F.2.1 F.2.2.1 F.2.2.2
def FrF (x I : Nat → Nat → Int32) (a : Nat) (F : Fm) : Prop := FrC x I a F.1 F.2.1 F.2.2.1 F.2.2.2
def FrO (I : Nat → Nat → Int32) (a o : Nat) (F : Fm) : Prop := I a o = nI F.1 ∧ I a (o + 1) = nI F.2.1 ∧ I a (o + 2) = nI F.2.2.1 ∧ ∀ d, d < 16 → I a (o + 3 + d) = nI (F.2.2.2 d)
def isD (D : Nat → Bool) (a : Nat) : Prop := 81 ≤ a ∧ D a = true ∧ D (a + 1) = false
theorem isD.F {D : Nat → Bool} {a : Nat} (h : isD D a) : isF D a := Or.inr (Or.inr (Or.inr (Or.inr h)))
/-- the rows of frames: the ring's eight, the two images -/
def rq (Q : Nat → Nat → Option Nat) (i : Nat) : Option Nat := if i < 8 then Q 11 i else Q 12 (i - 8)
def PQ (Q : Nat → Nat → Option Nat) (D : Nat → Bool) : Prop := (∀ i a, i < 10 → rq Q i = some a → isD D a) ∧ ∀ i j a, i < 10 → j < 10 → rq Q i = some a → rq Q j = some a → i = j
/-- the state: how long the tape is, its bytes, the latest fault, the frame, how many acts can be undone and the frames ahead of them (oldest first), the images, how long the row is that was looked at (none: there is none), its numbers -/
abbrev St : Type := Nat × (Nat → Nat) × Int32 × Fm × Nat × (Nat → Fm) × (Nat → Option Fm) × Option Nat × (Nat → Nat)
def tL (S : St) : Nat := S.1
def tB (S : St) : Nat → Nat := S.2.1
def fL (S : St) : Int32 := S.2.2.1
def fR (S : St) : Fm := S.2.2.2.1
def uN9 (S : St) : Nat := S.2.2.2.2.1
def uF (S : St) : Nat → Fm := S.2.2.2.2.2.1
def iM (S : St) : Nat → Option Fm := S.2.2.2.2.2.2.1
def lN9 (S : St) : Option Nat := S.2.2.2.2.2.2.2.1
def lR (S : St) : Nat → Nat := S.2.2.2.2.2.2.2.2
def lI (m : Option Nat) : Int32 := match m with
  | none => NO
  | some k => nI k
def lK (m : Option Nat) : Nat := m.getD 0
/-- the first place of a number in a row, from 1 on; 0: it isn't there -/
def fst1 (r : Nat → Nat) (d : Nat) : Nat → Nat
  | 0 => 0
  | k + 1 => if fst1 r d k ≠ 0 then fst1 r d k else if r k = d then k + 1 else 0
/-- a row in which each number stands just twice, as far apart as it says -/
def twin (r : Nat → Nat) (m : Nat) : Prop := ∀ d, 1 ≤ d → (∃ j, j < m ∧ r j = d) → ∃ p, p + d < m ∧ r p = d ∧ r (p + d) = d ∧ ∀ j, j < m → r j = d → j = p ∨ j = p + d
def LKok (m : Option Nat) (r : Nat → Nat) : Prop := lK m ≤ 121 ∧ (∀ j, j < lK m → r j ≤ 60) ∧ twin r (lK m)
def LKC (x I : Nat → Nat → Int32) (m : Option Nat) (r : Nat → Nat) : Prop := x 60 2 = lI m ∧ (∀ j, j < lK m → I 61 (j + 1) = nI (r j)) ∧ ∀ d, 1 ≤ d → d ≤ 60 → I 62 d = nI (fst1 r d (lK m))
def LKM (x I : Nat → Nat → Int32) (m : Option Nat) (r : Nat → Nat) : Prop := x 64 28 = lI m ∧ ∀ j, j < lK m → I 78 j = nI (r j)
def byN (b : Nat) : Int32 := (nI b).toInt8.toInt32
def CI (PC : (Nat → Nat → Int32) → (Nat → Nat → Int32) → (Nat → Nat → Int64) → Fm → Prop) (n : Nat) (x I : Nat → Nat → Int32) (L : Nat → Nat → Int64) (Q : Nat → Nat → Option Nat) (D : Nat → Bool) (S : St) : Prop :=
  DOK n D ∧ PQ Q D ∧ (tL S ≤ 340 ∧ x 0 1 = nI (tL S) ∧ ∀ j, j < tL S → tB S j < 256 ∧ I 1 j = byN (tB S j)) ∧ x 0 3 = fL S ∧ (WFf (fR S) ∧ FrF x I 6 (fR S)) ∧
  (uN9 S ≤ 8 ∧ x 10 2 = nI (uN9 S) ∧ ∃ t, t < 8 ∧ x 10 1 = nI t ∧ ∀ k, k < uN9 S → WFf (uF S k) ∧ ∃ a, Q 11 ((t + 9 + k - uN9 S) % 8) = some a ∧ FrF x I a (uF S k)) ∧
  (∀ k, k < 2 → match iM S k with
    | none => Q 12 k = none
    | some G => WFf G ∧ ∃ a, Q 12 k = some a ∧ FrF x I a G) ∧
  (LKok (lN9 S) (lR S) ∧ LKC x I (lN9 S) (lR S)) ∧ PC x I L (fR S)
def MI (x I : Nat → Nat → Int32) (S : St) : Prop :=
  (x 64 2 = nI (tL S) ∧ ∀ j, j < tL S → I 65 j = nI (tB S j)) ∧ x 64 8 = fL S ∧ FrO I 66 0 (fR S) ∧ (x 64 19 = nI (uN9 S) ∧ ∀ k, k < uN9 S → FrO I 69 (19 * k) (uF S k)) ∧
  (∀ k, k < 2 → match iM S k with
    | none => I 73 k = 0
    | some G => I 73 k = 1 ∧ FrO I 68 (19 * k) G) ∧ LKM x I (lN9 S) (lR S)
/-- the model's rows are the same; all but the model's are -/
def SM (x I x' I' : Nat → Nat → Int32) : Prop := ∀ a, 64 ≤ a → a < 80 → x' a = x a ∧ I' a = I a
def SC (x I x' I' : Nat → Nat → Int32) : Prop := ∀ a, a < 64 ∨ 80 ≤ a → x' a = x a ∧ I' a = I a
theorem MI.same {x I x' I' : Nat → Nat → Int32} {S : St} (h : SM x I x' I') (k : MI x I S) : MI x' I' S := by
  unfold MI FrO LKM at *
  rw [(h 64 (by decide) (by decide)).1, (h 65 (by decide) (by decide)).2, (h 66 (by decide) (by decide)).2, (h 69 (by decide) (by decide)).2, (h 73 (by decide) (by decide)).2, (h 68 (by decide) (by decide)).2, (h 78 (by decide) (by decide)).2]
  exact k
theorem FrF.same {x I x' I' : Nat → Nat → Int32} {a : Nat} {F : Fm} (h1 : x' a = x a) (h2 : I' (a + 1) = I (a + 1)) (k : FrF x I a F) : FrF x' I' a F := by
  unfold FrF FrC at *
  rw [h1, h2]
  exact k
theorem PQ.ring {Q : Nat → Nat → Option Nat} {D : Nat → Bool} (h : PQ Q D) {i a : Nat} (hi : i < 8) (e : Q 11 i = some a) : isD D a := h.1 i a (by omega) (by unfold rq; rw [if_pos hi]; exact e)
theorem PQ.img {Q : Nat → Nat → Option Nat} {D : Nat → Bool} (h : PQ Q D) {i a : Nat} (hi : i < 2) (e : Q 12 i = some a) : isD D a := h.1 (8 + i) a (by omega) (by unfold rq; rw [if_neg (by omega), show 8 + i - 8 = i by omega]; exact e)
theorem CI.same {PC : (Nat → Nat → Int32) → (Nat → Nat → Int32) → (Nat → Nat → Int64) → Fm → Prop} (hPC : ∀ x I x' I' L F, SC x I x' I' → PC x I L F → PC x' I' L F) {n : Nat} {x I x' I' : Nat → Nat → Int32} {L : Nat → Nat → Int64} {Q : Nat → Nat → Option Nat} {D : Nat → Bool} {S : St} (h : SC x I x' I') (k : CI PC n x I L Q D S) : CI PC n x' I' L Q D S := by
  have g : ∀ a, a < 64 ∨ 80 ≤ a → x' a = x a := fun a ha => (h a ha).1
  have g2 : ∀ a, a < 64 ∨ 80 ≤ a → I' a = I a := fun a ha => (h a ha).2
  obtain ⟨k1, k2, k3, k4, k5, k6, k7, k8, k9⟩ := k
  refine ⟨k1, k2, ?_, ?_, ?_, ?_, ?_, ?_, hPC _ _ _ _ _ _ h k9⟩
  · rw [g 0 (by omega), g2 1 (by omega)]; exact k3
  · rw [g 0 (by omega)]; exact k4
  · exact ⟨k5.1, k5.2.same (g 6 (by omega)) (g2 7 (by omega))⟩
  · rw [g 10 (by omega)]
    obtain ⟨e1, e2, t, e3, e4, e5⟩ := k6
    refine ⟨e1, e2, t, e3, e4, fun k hk => ?_⟩
    obtain ⟨e6, a, e7, e8⟩ := e5 k hk
    have := k2.ring (Nat.mod_lt _ (by decide)) e7
    exact ⟨e6, a, e7, e8.same (g a (Or.inr (by have := this.1; omega))) (g2 _ (Or.inr (by have := this.1; omega)))⟩
  · intro k hk
    have e := k7 k hk
    cases hi : iM S k with
    | none => rw [hi] at e; exact e
    | some G =>
      rw [hi] at e
      obtain ⟨e6, a, e7, e8⟩ := e
      have := k2.img hk e7
      exact ⟨e6, a, e7, e8.same (g a (Or.inr (by have := this.1; omega))) (g2 _ (Or.inr (by have := this.1; omega)))⟩
  · refine ⟨k8.1, ?_⟩
    unfold LKC at *
    rw [g 60 (by omega), g2 61 (by omega), g2 62 (by omega)]
    exact k8.2
def INVp (PC : (Nat → Nat → Int32) → (Nat → Nat → Int32) → (Nat → Nat → Int64) → Fm → Prop) (h : Hp) : Prop := ∃ n x w I L Q D S, h = MM n x w I L Q D ∧ CI PC n x I L Q D S ∧ MI x I S
/-- a step of both, out of a step of each -/
theorem both {PC : (Nat → Nat → Int32) → (Nat → Nat → Int32) → (Nat → Nat → Int64) → Fm → Prop} (hPC : ∀ x I x' I' L F, SC x I x' I' → PC x I L F → PC x' I' L F) {fC fM : Hp → Option (Int32 × Hp)} (ans : St → Int32) (nx : St → St)
    (hC : ∀ n x w I L Q D S, CI PC n x I L Q D S → ∃ n' x' I' L' Q' D', fC (MM n x w I L Q D) = some (ans S, MM n' x' w I' L' Q' D') ∧ CI PC n' x' I' L' Q' D' (nx S) ∧ SM x I x' I')
    (hM : ∀ n x w I L Q D S, (WFf (fR S) ∧ uN9 S ≤ 8 ∧ tL S ≤ 340 ∧ (∀ j, j < tL S → tB S j < 256) ∧ LKok (lN9 S) (lR S)) → MI x I S → ∃ x' w' I', fM (MM n x w I L Q D) = some (ans S, MM n x' w' I' L Q D) ∧ MI x' I' (nx S) ∧ SC x I x' I') {h : Hp} (hI : INVp PC h) :
    ∃ r h1 h2, (oK h 0 6 = true ∧ fC h = some (r, h1)) ∧ (oK h1 64 7 = true ∧ fM h1 = some (r, h2)) ∧ INVp PC h2 := by
  obtain ⟨n, x, w, I, L, Q, D, S, rfl, hc, hm⟩ := hI
  obtain ⟨n', x', I', L', Q', D', e1, e2, e3⟩ := hC n x w I L Q D S hc
  obtain ⟨x2, w2, I2, e4, e5, e6⟩ := hM n' x' w I' L' Q' D' S ⟨hc.2.2.2.2.1.1, hc.2.2.2.2.2.1.1, hc.2.2.1.1, fun j hj => (hc.2.2.1.2.2 j hj).1, hc.2.2.2.2.2.2.2.1.1⟩ (hm.same e3)
  exact ⟨ans S, _, _, ⟨o_0, e1⟩, ⟨o_64, e4⟩, n', x2, w2, I2, L', Q', D', nx S, rfl, CI.same hPC e6 e2, e5⟩
theorem both0 {PC : (Nat → Nat → Int32) → (Nat → Nat → Int32) → (Nat → Nat → Int64) → Fm → Prop} (hPC : ∀ x I x' I' L F, SC x I x' I' → PC x I L F → PC x' I' L F) {fC : Hp → Option Int32} {fM : Hp → Option (Int32 × Hp)} (ans : St → Int32) (nx : St → St)
    (hC : ∀ n x w I L Q D S, CI PC n x I L Q D S → fC (MM n x w I L Q D) = some (ans S) ∧ CI PC n x I L Q D (nx S))
    (hM : ∀ n x w I L Q D S, (WFf (fR S) ∧ uN9 S ≤ 8 ∧ tL S ≤ 340 ∧ (∀ j, j < tL S → tB S j < 256) ∧ LKok (lN9 S) (lR S)) → MI x I S → ∃ x' w' I', fM (MM n x w I L Q D) = some (ans S, MM n x' w' I' L Q D) ∧ MI x' I' (nx S) ∧ SC x I x' I') {h : Hp} (hI : INVp PC h) :
    ∃ r h2, (oK h 0 6 = true ∧ fC h = some r) ∧ (oK h 64 7 = true ∧ fM h = some (r, h2)) ∧ INVp PC h2 := by
  obtain ⟨n, x, w, I, L, Q, D, S, rfl, hc, hm⟩ := hI
  obtain ⟨e1, e2⟩ := hC n x w I L Q D S hc
  obtain ⟨x2, w2, I2, e4, e5, e6⟩ := hM n x w I L Q D S ⟨hc.2.2.2.2.1.1, hc.2.2.2.2.2.1.1, hc.2.2.1.1, fun j hj => (hc.2.2.1.2.2 j hj).1, hc.2.2.2.2.2.2.2.1.1⟩ hm
  exact ⟨ans S, _, ⟨o_0, e1⟩, ⟨o_64, e4⟩, n, x2, w2, I2, L, Q, D, nx S, rfl, CI.same hPC e6 e2, e5⟩
