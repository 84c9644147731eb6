/-! all fillings counted: what the object holds -/
def CNT (b N : Nat) (x I : Nat → Nat → Int32) (L : Nat → Nat → Int64) (c ho pa : Nat) (f : Nat → Nat) : Prop := x b 6 = nI c ∧ x b 7 = nI (FL c ho pa f).length ∧ (∀ d, 1 ≤ d → d ≤ 15 → I (b + 2) d = nI (dg pa d)) ∧ (∀ d, 1 ≤ d → d ≤ 15 → pa.testBit (d - 1) = true → I (b + 3) (dg pa d) = nI d) ∧
  (∀ i q, i < 15 → q < 18 → I (b + 6 + i) (q + 1) = nI (cf (q, i) (FL c ho pa f))) ∧ ∀ i (h : i < (FL c ho pa f).length), i < N → L (b + 21) i = vl (VV c pa) (FL c ho pa f)[i]
/-- no frame has more fillings -/
def BND : Prop := ∀ c ho pa f, WF c ho pa f → evF c ho pa = true → (enu c 0 (frO c ho f) (unO pa f)).length ≤ 2656
theorem get_of_map {α β : Type} {l : List α} {m : List β} {g : α → β} (h : m = l.map g) {i : Nat} (hi : i < m.length) (hj : i < l.length) : m[i] = g l[i] := by
  subst h
  rw [List.getElem_map]
section CALL
variable {n : Nat} {w : Int64} {Q : Nat → Nat → Option Nat} {D : Nat → Bool} {b N a c ho pa : Nat} {f : Nat → Nat}
theorem c_pins_l {V : Nat × Nat → Int64} {x I : Nat → Nat → Int32} {L : Nat → Nat → Int64} {E : List (List (Nat × Nat))} (hb : Fi b N) (hF : isF D a) (hw : WF c ho pa f) (hab : a + 1 < b + 6 ∨ b + 20 < a + 1) (hp : Pre b c 0 V x I L) (hE : E.length ≤ 4000) : ∀ (j u fu : Nat) (x1 I1 : Nat → Nat → Int32) (L1 : Nat → Nat → Int64), u + j = 15 → j < fu → FrC x1 I1 a c ho pa f → Eff b N 0 V (E.map (fun e => pls f u ++ e)) x I x1 I1 L L1 →
    ∃ I2 L2, f_X1_countAll_82 fu b a (nI (u + 1)) (MM n x1 w I1 L1 Q D) = some (MM n x1 w I2 L2 Q D) ∧ Eff b N 0 V (E.map (fun e => pls f 15 ++ e)) x I x1 I2 L L2
  | 0, u, fu, x1, I1, L1, h, hf, hx, he => by
    obtain ⟨fu, rfl⟩ : ∃ n9, fu = n9 + 1 := ⟨fu - 1, by omega⟩
    obtain rfl : u = 15 := by omega
    exact ⟨I1, L1, by rw [f_X1_countAll_82, if_pos (by decide)], he⟩
  | j + 1, u, fu, x1, I1, L1, h, hf, hx, he => by
    obtain ⟨fu, rfl⟩ : ∃ n9, fu = n9 + 1 := ⟨fu - 1, by omega⟩
    have hfu := hw.f18 (d := u + 1) (by omega)
    rw [f_X1_countAll_82, li15, if_neg (nI_nlt (by omega) (by omega)), F_r hF, ob_s, F_a hF (by omega), ob_s, hx.2.2.2 (u + 1) (by omega)]
    by_cases h0 : f (u + 1) = 0
    · rw [if_pos (by rw [h0]; rfl), nI_1]
      refine c_pins_l hb hF hw hab hp hE j (u + 1) fu x1 I1 L1 (by omega) (by omega) hx ?_
      have : pls f (u + 1) = pls f u := by rw [pls, if_neg (by omega)]
      rw [this]
      exact he
    · have hpn := hw.pinP (d := u) (by omega) h0
      have hpre := he.pre hp
      rw [List.length_map] at hpre
      obtain ⟨I2, L2, e1, e2, e3⟩ := c_stand (n := n) (w := w) (Q := Q) (D := D) (k := 0) (q := f (u + 1) - 1) (i := u) hb hw.1 hpre (by omega) (by omega) (by omega)
      rw [if_neg (nI_ne0 (by omega) (by omega)), ob_s, F_a hF (by omega), ob_s, hx.2.2.2 (u + 1) (by omega), Fi_o hb, if_pos rfl, show f (u + 1) = f (u + 1) - 1 + 1 by omega, show (0 : Int32) = nI 0 from rfl, e1, ob_s, nI_1]
      have he2 := he.stand (q := f (u + 1) - 1) (i := u) (I2 := I2) (L2 := L2) (by omega) (fun e k => by rw [e2, List.length_map]) (fun e k => by rw [e3, List.length_map])
      rw [List.map_map] at he2
      have hpl : (fun e => pls f (u + 1) ++ e) = (fun e => (f (u + 1) - 1, u) :: e) ∘ (fun e => pls f u ++ e) := by
        funext e
        show _ = (f (u + 1) - 1, u) :: (pls f u ++ e)
        rw [pls, if_pos h0]
        rfl
      rw [← hpl] at he2
      refine c_pins_l hb hF hw hab hp hE j (u + 1) fu x1 I2 L2 (by omega) (by omega) ?_ he2
      have : I2 (a + 1) = I1 (a + 1) := funext fun k => by rw [e2, if_neg (by omega)]
      unfold FrC at *
      rw [this]
      exact hx
theorem c_countAll {x I : Nat → Nat → Int32} {L : Nat → Nat → Int64} (hB : BND) (hb : Fi b N) (hF : isF D a) (hA : a < b ∨ b + 20 < a) (hw : WF c ho pa f) (hx : FrC x I a c ho pa f) (hA1 : a + 1 < b ∨ b + 20 < a) : ∃ x' I' L', f_X1_countAll (MM n x w I L Q D) b a = some (MM n x' w I' L' Q D) ∧ x' b 5 = 1 ∧ CNT b N x' I' L' c ho pa f ∧ (∀ e k, ¬ (e = b ∧ 5 ≤ k ∧ k ≤ 7) → x' e k = x e k) ∧ (∀ e, ¬ (b + 2 ≤ e ∧ e ≤ b + 20) → I' e = I e) ∧ ∀ e, e ≠ b + 21 → e ≠ b + 1 → L' e = L e := by
  obtain ⟨I1, z1, z2⟩ := c_zero_l (a := a) (n := n) (w := w) (Q := Q) (D := D) (x := s2 (s2 x b 5 1) b 7 0) (L := L) hb 15 0 4096 I (by omega) (by omega)
  have hxa : ∀ (x9 I9 : Nat → Nat → Int32), (∀ k, x9 a k = x a k) → I9 (a + 1) = I (a + 1) → FrC x9 I9 a c ho pa f := fun x9 I9 e1 e2 => by
    unfold FrC at *
    rw [e1, e1, e1, e2]
    exact hx
  have hI1 : I1 (a + 1) = I (a + 1) := funext fun k => by rw [z2, if_neg (by omega)]
  have hx1 : ∀ k, (s2 (s2 x b 5 1) b 7 0) a k = x a k := fun k => by rw [s2_at, if_neg (by omega), s2_at, if_neg (by omega)]
  obtain ⟨I2, n1, n2, n3, n4⟩ := c_nameDigits_l (n := n) (w := w) (Q := Q) (D := D) (x := s2 (s2 x b 5 1) b 7 0) (L := L) hb hF hw (by omega) 15 0 4096 I1 (by omega) (by omega) (hxa _ _ hx1 hI1) (fun d d1 d2 => by omega) (fun d d1 d2 => by omega)
  have hI2 : I2 (a + 1) = I (a + 1) := by rw [n4 _ (by omega) (by omega), hI1]
  obtain ⟨L2, w1, w2, w3⟩ := c_weigh (n := n) (w := w) (Q := Q) (D := D) (L := L) hb hF (by omega) hw (hxa (s2 (s2 x b 5 1) b 7 0) I2 hx1 hI2)
  have hx2 : ∀ k, (s2 (s2 (s2 x b 5 1) b 7 0) b 6 (nI c)) a k = x a k := fun k => by rw [s2_at, if_neg (by omega), hx1]
  have hfr := hxa (s2 (s2 (s2 x b 5 1) b 7 0) b 6 (nI c)) I2 hx2 hI2
  have hstart : f_X1_countAll (MM n x w I L Q D) b a = (f_X2_isEven (MM n (s2 (s2 (s2 x b 5 1) b 7 0) b 6 (nI c)) w I2 L2 Q D) a).bind fun x3 => if x3 = 0 then (some (MM n (s2 (s2 (s2 x b 5 1) b 7 0) b 6 (nI c)) w I2 L2 Q D)) else (if oK (MM n (s2 (s2 (s2 x b 5 1) b 7 0) b 6 (nI c)) w I2 L2 Q D) a 2 = true then (f_X2_placesToFill (MM n (s2 (s2 (s2 x b 5 1) b 7 0) b 6 (nI c)) w I2 L2 Q D) a).bind fun x4 => if oK (MM n (s2 (s2 (s2 x b 5 1) b 7 0) b 6 (nI c)) w I2 L2 Q D) a 2 = true then (f_X2_pinnedPlaces (MM n (s2 (s2 (s2 x b 5 1) b 7 0) b 6 (nI c)) w I2 L2 Q D) a (0 : Int32)).bind fun x5 => (gI (MM n (s2 (s2 (s2 x b 5 1) b 7 0) b 6 (nI c)) w I2 L2 Q D) a 2 2).bind fun x6 => if oK (MM n (s2 (s2 (s2 x b 5 1) b 7 0) b 6 (nI c)) w I2 L2 Q D) a 2 = true then (f_X2_pinnedPairs (MM n (s2 (s2 (s2 x b 5 1) b 7 0) b 6 (nI c)) w I2 L2 Q D) a).bind fun x7 => if oK (MM n (s2 (s2 (s2 x b 5 1) b 7 0) b 6 (nI c)) w I2 L2 Q D) b 1 = true then (f_X1_fill 20 (MM n (s2 (s2 (s2 x b 5 1) b 7 0) b 6 (nI c)) w I2 L2 Q D) b (1 : Int32) (x4 &&& (x5 ^^^ (-1 : Int32))) (x6 &&& (x7 ^^^ (-1 : Int32)))).bind fun h8 => f_X1_countAll_82 4096 b a (1 : Int32) h8 else none else none else none else none) := by
    unfold f_X1_countAll
    rw [Fi_p5 hb, ob_s, Fi_p7 hb, ob_s]
    show f_X1_countAll_12 4096 b a (nI (0 + 1)) _ = _
    rw [z1]
    show f_X1_countAll_12 (4080 + 1) b a (nI 16) _ = _
    rw [f_X1_countAll_12, if_pos (by decide), Fi_o hb, if_pos rfl]
    unfold f_X1_nameDigits
    show (f_X1_nameDigits_4 4096 b a (nI (fb_ct (fun i => pa.testBit i) 0)) (nI (0 + 1)) _).bind _ = _
    rw [n1, ob_s, Fi_o hb, if_pos rfl, w1, ob_s, F_o hF, if_pos rfl]
  have hV : ∀ q i, q + i + 1 < c → i < 15 → VV c pa (q, i) = (I2 (b + 2) (i + 1)).toInt64 * (L2 (b + 1) (q + 1) + L2 (b + 1) (q + i + 2)) := fun q i h1 h2 => by
    have : dg pa (i + 1) ≤ 15 := by
      unfold dg
      split
      · have := fb_ct_le (fun i => pa.testBit i) (i + 1); omega
      · omega
    rw [n2 (i + 1) (by omega) (by omega), w2 (q + 1) (by omega) (by omega), w2 (q + i + 2) (by omega) (by omega), nI_l (by omega), lN_add, lN_mul]
    unfold VV
    rw [show c - 1 - q = c - (q + 1) by omega, show c - 2 - q - i = c - (q + i + 2) by omega]
  have h7 : (s2 (s2 (s2 x b 5 1) b 7 0) b 6 (nI c)) b 7 = nI 0 := by rw [s2_at, if_neg (by omega), s2_e]; rfl
  have hpre : Pre b c 0 (VV c pa) (s2 (s2 (s2 x b 5 1) b 7 0) b 6 (nI c)) I2 L2 := ⟨s2_e, h7, hV⟩
  have hz : ∀ i q, i < 15 → q < 18 → I2 (b + 6 + i) (q + 1) = 0 := fun i q h1 h2 => by rw [n4 _ (by omega) (by omega), z2, if_pos (by omega)]
  have hIs : ∀ e, ¬ (b + 2 ≤ e ∧ e ≤ b + 20) → I2 e = I e := fun e he => by
    rw [n4 e (by omega) (by omega)]
    funext k
    rw [z2, if_neg (by omega)]
  have hxs : ∀ e k, ¬ (e = b ∧ 5 ≤ k ∧ k ≤ 7) → (s2 (s2 (s2 x b 5 1) b 7 0) b 6 (nI c)) e k = x e k := fun e k he => by
    rw [s2_at, if_neg (by omega), s2_at, if_neg (by omega), s2_at, if_neg (by omega)]
  have hx5 : (s2 (s2 (s2 x b 5 1) b 7 0) b 6 (nI c)) b 5 = 1 := by rw [s2_at, if_neg (by omega), s2_at, if_neg (by omega), s2_e]
  rw [hstart]
  clear hstart
  by_cases hev : evF c ho pa = true
  · have hfl := FL_map hw hev
    have hps := pc_start hw hev
    have hlen := hB c ho pa f hw hev
    obtain ⟨E, hE⟩ : ∃ E, E = enu c 0 (frO c ho f) (unO pa f) := ⟨_, rfl⟩
    obtain ⟨G, hG⟩ : ∃ G, G = FL c ho pa f := ⟨_, rfl⟩
    unfold CNT
    rw [← hE] at hfl hlen
    rw [← hG] at hfl ⊢
    obtain ⟨x3, I3, L3, f1, f2⟩ := c_fillN (n := n) (w := w) (Q := Q) (D := D) (V := VV c pa) hb hw.1 19 0 (frO c ho f) (unO pa f) 0 (s2 (s2 (s2 x b 5 1) b 7 0) b 6 (nI c)) I2 L2 (Nat.zero_le _) (by have := hw.1; omega) (frO_lt hw) (fun j hj => absurd hj (Nat.not_lt_zero j)) (unO_lt hw) hps.1 hps.2 hpre (by rw [Nat.sub_zero, ← hE]; omega)
    rw [Nat.sub_zero, ← hE] at f2
    have hfr3 : FrC x3 I3 a c ho pa f := hxa x3 I3 (fun k => by rw [f2.1, if_neg (by omega), hx2]) (funext fun k => by rw [f2.2.1, if_neg (by omega), hI2])
    obtain ⟨I4, L4, p1, p2⟩ := c_pins_l (n := n) (w := w) (Q := Q) (D := D) (E := E) hb hF hw (by omega) hpre (by omega) 15 0 4096 x3 I3 L3 (by omega) (by omega) hfr3 (by
      have : (fun e => pls f 0 ++ e) = (id : List (Nat × Nat) → List (Nat × Nat)) := by funext e; rfl
      rw [this, List.map_id]
      exact f2)
    have hlG : G.length = E.length := by rw [hfl, List.length_map]
    refine ⟨x3, I4, L4, ?_, ?_⟩
    · rw [c_isEven hF hfr hw.1 hw.2.1 hw.2.2.1, ob_s, if_pos hev, if_neg z10, F_o hF, if_pos rfl, c_places hF hfr hw.1 hw.2.1, ob_s, if_pos rfl, c_pinnedPlaces0 hF hfr (fun d hd => hw.f18 hd), ob_s, F_g2 hF, ob_s, hfr.2.2.1, if_pos rfl, c_pinnedPairs hF hfr (fun d hd => by rcases hw.f18 hd with z | z <;> omega), ob_s, Fi_o hb, if_pos rfl, liN, msk_nI, msk_nI]
      show (f_X1_fill (19 + 1) _ b (nI (0 + 1)) (nI (frO c ho f)) (nI (unO pa f))).bind _ = _
      rw [f1, ob_s]
      exact p1
    · clear f1 p1 hpre hV hfr hfr3 hE hG hps hx2 hx1 z1 z2 n1 w1
      refine ⟨?_, ⟨?_, ?_, ?_, ?_, ?_, ?_⟩, ?_, ?_, ?_⟩
      · rw [f2.1, if_neg (by omega), hx5]
      · rw [f2.1, if_neg (by omega), s2_e]
      · rw [p2.1, if_pos ⟨rfl, rfl⟩, List.length_map, Nat.zero_add, hlG]
      · intro d d1 d2
        rw [p2.2.1, if_neg (by omega)]
        exact n2 d d1 d2
      · intro d d1 d2 d3
        rw [p2.2.1, if_neg (by omega)]
        exact n3 d d1 d2 d3
      · intro i q h1 h2
        rw [p2.2.1, if_pos (by omega), hz i q h1 h2, Int32.zero_add, Nat.add_sub_cancel, show b + 6 + i - (b + 6) = i by omega, hfl, cf_perm (q, i) _ (fun e => (mg_perm hw e).symm)]
      · intro i hi hN
        have h2 := p2.2.2.2 i (by rw [List.length_map, ← hlG]; exact hi) (by omega)
        rw [List.getElem_map, Nat.zero_add] at h2
        rw [h2, get_of_map hfl hi (by rw [← hlG]; exact hi)]
        exact vl_perm (mg_perm hw _).symm
      · intro e k he
        rw [f2.1, if_neg (by omega), hxs e k he]
      · intro e he
        rw [← hIs e he]
        funext k
        rw [p2.2.1, if_neg (by omega)]
      · intro e e1 e2
        rw [← w3 e e2]
        funext k
        exact p2.2.2.1 e k (Or.inl e1)
  · have hfl : FL c ho pa f = [] := if_neg hev
    rw [c_isEven hF hfr hw.1 hw.2.1 hw.2.2.1, ob_s, if_neg hev, if_pos z00]
    refine ⟨_, I2, L2, rfl, hx5, ⟨s2_e, ?_, n2, n3, ?_, ?_⟩, hxs, hIs, fun e e1 e2 => w3 e e2⟩
    · rw [hfl]; exact h7
    · intro i q h1 h2
      rw [hz i q h1 h2, hfl]
      rfl
    · intro i hi
      rw [hfl] at hi
      exact absurd hi (Nat.not_lt_zero i)
end CALL
