/-! the class's counting: the two objects of fillings (14: 2656 numbers; 38: none) -/
def Fi (b N : Nat) : Prop := (b = 14 ∧ N = 2656) ∨ (b = 38 ∧ N = 0)
section FI
variable {n : Nat} {x : Nat → Nat → Int32} {w : Int64} {I : Nat → Nat → Int32} {L : Nat → Nat → Int64} {Q : Nat → Nat → Option Nat} {D : Nat → Bool} {b N : Nat}
theorem Fi_o (h : Fi b N) : oK (MM n x w I L Q D) b 1 = true := by rcases h with ⟨rfl, rfl⟩ | ⟨rfl, rfl⟩ <;> rfl
theorem Fi_r0 (h : Fi b N) : gR (MM n x w I L Q D) b 1 0 = some (b + 21) := by rcases h with ⟨rfl, rfl⟩ | ⟨rfl, rfl⟩ <;> rfl
theorem Fi_r1 (h : Fi b N) : gR (MM n x w I L Q D) b 1 1 = some (b + 1) := by rcases h with ⟨rfl, rfl⟩ | ⟨rfl, rfl⟩ <;> rfl
theorem Fi_r2 (h : Fi b N) : gR (MM n x w I L Q D) b 1 2 = some (b + 2) := by rcases h with ⟨rfl, rfl⟩ | ⟨rfl, rfl⟩ <;> rfl
theorem Fi_r3 (h : Fi b N) : gR (MM n x w I L Q D) b 1 3 = some (b + 3) := by rcases h with ⟨rfl, rfl⟩ | ⟨rfl, rfl⟩ <;> rfl
theorem Fi_r4 (h : Fi b N) : gR (MM n x w I L Q D) b 1 4 = some (b + 4) := by rcases h with ⟨rfl, rfl⟩ | ⟨rfl, rfl⟩ <;> rfl
theorem Fi_g5 (h : Fi b N) : gI (MM n x w I L Q D) b 1 5 = some (x b 5) := by rcases h with ⟨rfl, rfl⟩ | ⟨rfl, rfl⟩ <;> rfl
theorem Fi_g6 (h : Fi b N) : gI (MM n x w I L Q D) b 1 6 = some (x b 6) := by rcases h with ⟨rfl, rfl⟩ | ⟨rfl, rfl⟩ <;> rfl
theorem Fi_g7 (h : Fi b N) : gI (MM n x w I L Q D) b 1 7 = some (x b 7) := by rcases h with ⟨rfl, rfl⟩ | ⟨rfl, rfl⟩ <;> rfl
theorem Fi_p5 {v : Int32} (h : Fi b N) : pV (MM n x w I L Q D) b 1 5 (.int v) = some (MM n (s2 x b 5 v) w I L Q D) := by rcases h with ⟨rfl, rfl⟩ | ⟨rfl, rfl⟩ <;> exact congrArg some (hs_x rfl)
theorem Fi_p6 {v : Int32} (h : Fi b N) : pV (MM n x w I L Q D) b 1 6 (.int v) = some (MM n (s2 x b 6 v) w I L Q D) := by rcases h with ⟨rfl, rfl⟩ | ⟨rfl, rfl⟩ <;> exact congrArg some (hs_x rfl)
theorem Fi_p7 {v : Int32} (h : Fi b N) : pV (MM n x w I L Q D) b 1 7 (.int v) = some (MM n (s2 x b 7 v) w I L Q D) := by rcases h with ⟨rfl, rfl⟩ | ⟨rfl, rfl⟩ <;> exact congrArg some (hs_x rfl)
theorem Fi_n (h : Fi b N) : aN (MM n x w I L Q D) (b + 21) = some (nI N) := by rcases h with ⟨rfl, rfl⟩ | ⟨rfl, rfl⟩ <;> rfl
theorem Fi_N (h : Fi b N) : N ≤ 2656 := by rcases h with ⟨rfl, rfl⟩ | ⟨rfl, rfl⟩ <;> decide
theorem Fi_s1 (h : Fi b N) : shp[b + 21]? = some (2, N) := by rcases h with ⟨rfl, rfl⟩ | ⟨rfl, rfl⟩ <;> rfl
theorem Fi_s2 (h : Fi b N) : shp[b + 1]? = some (2, 19) := by rcases h with ⟨rfl, rfl⟩ | ⟨rfl, rfl⟩ <;> rfl
theorem Fi_s3 (h : Fi b N) : shp[b + 2]? = some (0, 16) := by rcases h with ⟨rfl, rfl⟩ | ⟨rfl, rfl⟩ <;> rfl
theorem Fi_s4 (h : Fi b N) : shp[b + 3]? = some (0, 10) := by rcases h with ⟨rfl, rfl⟩ | ⟨rfl, rfl⟩ <;> rfl
theorem shp_19 : ∀ d, d < 16 → shp[19 + d]? = some (0, 19) := by decide +kernel
theorem shp_43 : ∀ d, d < 16 → shp[43 + d]? = some (0, 19) := by decide +kernel
theorem Fi_s6 (h : Fi b N) {d : Nat} (hd : d < 16) : shp[b + 5 + d]? = some (0, 19) := by
  rcases h with ⟨rfl, rfl⟩ | ⟨rfl, rfl⟩
  · exact shp_19 d hd
  · exact shp_43 d hd
theorem Fi_s5 (h : Fi b N) : shp[b + 4]? = some (5, b + 5) := by rcases h with ⟨rfl, rfl⟩ | ⟨rfl, rfl⟩ <;> rfl
theorem Fi_R (h : Fi b N) {d : Nat} (hd : d < 16) : aR (MM n x w I L Q D) 5 (b + 4) (nI d) = some (b + 5 + d) := by
  have hc : (MM n x w I L Q D).2 (b + 4) = some (.inl (5, 16, .inr (.inr (.inr (.inr fun i => if i < 16 then some (b + 5 + i) else none))))) := by
    show cel (b + 4) _ _ _ _ _ _ _ = _
    unfold cel
    rw [Fi_s5 h]
    rfl
  unfold aR aQ
  rw [hc]
  show (if 5 = 5 ∧ _ then _ else _ : Option (Option Nat)).bind _ = _
  rw [if_pos ⟨rfl, vp_in_nI hd (by decide)⟩, nI_clamp (by omega)]
  show (if d < 16 then some (b + 5 + d) else none) = _
  rw [if_pos hd]
theorem Fi_f (h : Fi b N) {d : Nat} (hd : d < 16) : aN (MM n x w I L Q D) (b + 5 + d) = some (nI 19) := by
  have hc : (MM n x w I L Q D).2 (b + 5 + d) = some (.inl (0, 19, .inl (I (b + 5 + d)))) := by
    show cel (b + 5 + d) _ _ _ _ _ _ _ = _
    unfold cel
    rw [Fi_s6 h hd]
    rfl
  unfold aN
  rw [hc]
  rfl
end FI
/-! what a list of fillings does to the object -/
def vl (V : Nat × Nat → Int64) : List (Nat × Nat) → Int64
  | [] => 0
  | p :: e => vl V e + V p
def cf (p : Nat × Nat) : List (List (Nat × Nat)) → Nat
  | [] => 0
  | e :: E => e.count p + cf p E
theorem cf_app (p : Nat × Nat) : ∀ E G, cf p (E ++ G) = cf p E + cf p G
  | [], G => by simp [cf]
  | e :: E, G => by rw [List.cons_append, cf, cf, cf_app p E G]; omega
theorem cf_map (p a : Nat × Nat) : ∀ E, cf p (E.map (fun e => a :: e)) = cf p E + if p = a then E.length else 0
  | [] => by simp [cf]
  | e :: E => by
    rw [List.map_cons, cf, cf, cf_map p a E, List.count_cons, List.length_cons]
    by_cases h : p = a
    · subst h; simp; omega
    · have : ¬ a = p := fun e => h e.symm
      simp [h, this]
def Eff (b N k : Nat) (V : Nat × Nat → Int64) (E : List (List (Nat × Nat))) (x I x' I' : Nat → Nat → Int32) (L L' : Nat → Nat → Int64) : Prop :=
  (∀ a j, x' a j = if a = b ∧ j = 7 then nI (k + E.length) else x a j) ∧
  (∀ a j, I' a j = if b + 6 ≤ a ∧ a ≤ b + 20 ∧ 1 ≤ j then I a j + nI (cf (j - 1, a - (b + 6)) E) else I a j) ∧
  (∀ a j, (a ≠ b + 21 ∨ j < k) → L' a j = L a j) ∧ ∀ i (h : i < E.length), k + i < N → L' (b + 21) (k + i) = vl V E[i]
def Pre (b c k : Nat) (V : Nat × Nat → Int64) (x I : Nat → Nat → Int32) (L : Nat → Nat → Int64) : Prop := x b 6 = nI c ∧ x b 7 = nI k ∧ ∀ q i, q + i + 1 < c → i < 15 → V (q, i) = (I (b + 2) (i + 1)).toInt64 * (L (b + 1) (q + 1) + L (b + 1) (q + i + 2))
theorem Eff.pre {b N c k : Nat} {V : Nat × Nat → Int64} {E : List (List (Nat × Nat))} {x I x' I' : Nat → Nat → Int32} {L L' : Nat → Nat → Int64} (h : Eff b N k V E x I x' I' L L') (p : Pre b c k V x I L) : Pre b c (k + E.length) V x' I' L' := by
  obtain ⟨h1, h2, h3, h4⟩ := h
  refine ⟨by rw [h1, if_neg (by omega)]; exact p.1, by rw [h1, if_pos ⟨rfl, rfl⟩], fun q i hq hi => ?_⟩
  rw [h2, if_neg (by omega), h3 _ _ (Or.inl (by omega)), h3 _ _ (Or.inl (by omega))]
  exact p.2.2 q i hq hi
theorem Eff.nil {b N k : Nat} {V : Nat × Nat → Int64} {x I : Nat → Nat → Int32} {L : Nat → Nat → Int64} (h : x b 7 = nI k) : Eff b N k V [] x I x I L L := by
  refine ⟨fun a j => ?_, fun a j => ?_, fun _ _ _ => rfl, fun i hi => absurd hi (Nat.not_lt_zero i)⟩
  · by_cases q : a = b ∧ j = 7
    · rw [if_pos q, q.1, q.2, h]; rfl
    · rw [if_neg q]
  · rw [cf]
    split
    · rw [nI_0, Int32.add_zero]
    · rfl
theorem Eff.app {b N k : Nat} {V : Nat × Nat → Int64} {E G : List (List (Nat × Nat))} {x I x' I' x2 I2 : Nat → Nat → Int32} {L L' L2 : Nat → Nat → Int64} (h : Eff b N k V E x I x' I' L L') (g : Eff b N (k + E.length) V G x' I' x2 I2 L' L2) : Eff b N k V (E ++ G) x I x2 I2 L L2 := by
  obtain ⟨h1, h2, h3, h4⟩ := h
  obtain ⟨g1, g2, g3, g4⟩ := g
  refine ⟨fun a j => ?_, fun a j => ?_, fun a j q => ?_, fun i hi hk => ?_⟩
  · rw [g1, h1, List.length_append]
    by_cases q : a = b ∧ j = 7
    · rw [if_pos q, if_pos q, Nat.add_assoc]
    · rw [if_neg q, if_neg q, if_neg q]
  · rw [g2, h2, cf_app]
    by_cases q : b + 6 ≤ a ∧ a ≤ b + 20 ∧ 1 ≤ j
    · rw [if_pos q, if_pos q, if_pos q, Int32.add_assoc, nI_add]
    · rw [if_neg q, if_neg q, if_neg q]
  · rw [g3 a j (by omega), h3 a j q]
  · by_cases q : i < E.length
    · rw [g3 _ _ (Or.inr (by omega)), h4 i q hk, List.getElem_append_left q]
    · rw [List.length_append] at hi
      have e := g4 (i - E.length) (by omega) (by omega)
      rw [show k + E.length + (i - E.length) = k + i by omega] at e
      rw [e, List.getElem_append_right (by omega)]
/-- a pair stands in all of them -/
theorem Eff.stand {b N k q i : Nat} {V : Nat × Nat → Int64} {E : List (List (Nat × Nat))} {x I x' I' I2 : Nat → Nat → Int32} {L L' L2 : Nat → Nat → Int64} (h : Eff b N k V E x I x' I' L L') (hi : i < 15)
    (hI : ∀ a j, I2 a j = if a = b + 6 + i ∧ j = q + 1 then I' a j + nI E.length else I' a j) (hL : ∀ a j, L2 a j = if a = b + 21 ∧ k ≤ j ∧ j < k + E.length ∧ j < N then L' a j + V (q, i) else L' a j) : Eff b N k V (E.map (fun e => (q, i) :: e)) x I x' I2 L L2 := by
  obtain ⟨h1, h2, h3, h4⟩ := h
  refine ⟨fun a j => ?_, fun a j => ?_, fun a j z => ?_, fun m hm hk => ?_⟩
  · rw [h1, List.length_map]
  · rw [hI, h2, cf_map]
    by_cases z : b + 6 ≤ a ∧ a ≤ b + 20 ∧ 1 ≤ j
    · rw [if_pos z, if_pos z]
      by_cases z2 : a = b + 6 + i ∧ j = q + 1
      · rw [if_pos z2, if_pos (by rw [z2.1, z2.2]; congr 1; omega), ← nI_add, Int32.add_assoc]
      · rw [if_neg z2, if_neg (fun e => z2 (by have e1 := congrArg Prod.fst e; have e2 := congrArg Prod.snd e; have e1 : j - 1 = q := e1; have e2 : a - (b + 6) = i := e2; omega))]
        rfl
    · rw [if_neg z, if_neg z, if_neg (by omega)]
  · rw [hL, if_neg (by omega), h3 a j z]
  · rw [List.length_map] at hm
    rw [hL, if_pos ⟨rfl, by omega, by omega, hk⟩, h4 m hm hk, List.getElem_map, vl]
