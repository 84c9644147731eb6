theorem law_ok : ∃ (I : Hp → Prop) (h9 : Hp), LawS I ∧ f_L_start = some (0, 64, 80, h9) ∧ I h9 := sorry
