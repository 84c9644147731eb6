/-! the start -/
def H9 : Hp := match f_L_start with
  | some q => q.2.2.2
  | none => h_0
theorem start9 : f_L_start = some (0, 64, 80, H9) := rfl
def x09 : Nat → Nat → Int32 := fun a j => if (a = 60 ∧ j = 2) ∨ (a = 64 ∧ j = 28) then NO else 0
def M09 : Hp := MM 81 x09 0 (fun _ _ => 0) (fun _ _ => 0) (fun _ _ => none) (fun _ => false)
theorem h9_n : H9.1 = 81 := rfl
set_option maxRecDepth 200000 in
theorem h9_0 : H9.2 0 = M09.2 0 := rfl
set_option maxRecDepth 200000 in
theorem h9_1 : H9.2 1 = M09.2 1 := rfl
set_option maxRecDepth 200000 in
theorem h9_2 : H9.2 2 = M09.2 2 := rfl
set_option maxRecDepth 200000 in
theorem h9_3 : H9.2 3 = M09.2 3 := rfl
set_option maxRecDepth 200000 in
theorem h9_4 : H9.2 4 = M09.2 4 := rfl
set_option maxRecDepth 200000 in
theorem h9_5 : H9.2 5 = M09.2 5 := rfl
set_option maxRecDepth 200000 in
theorem h9_6 : H9.2 6 = M09.2 6 := rfl
set_option maxRecDepth 200000 in
theorem h9_7 : H9.2 7 = M09.2 7 := rfl
set_option maxRecDepth 200000 in
theorem h9_8 : H9.2 8 = M09.2 8 := rfl
set_option maxRecDepth 200000 in
theorem h9_9 : H9.2 9 = M09.2 9 := rfl
set_option maxRecDepth 200000 in
theorem h9_10 : H9.2 10 = M09.2 10 := rfl
set_option maxRecDepth 200000 in
theorem h9_11 : H9.2 11 = M09.2 11 := rfl
set_option maxRecDepth 200000 in
theorem h9_12 : H9.2 12 = M09.2 12 := rfl
set_option maxRecDepth 200000 in
theorem h9_13 : H9.2 13 = M09.2 13 := rfl
set_option maxRecDepth 200000 in
theorem h9_14 : H9.2 14 = M09.2 14 := rfl
set_option maxRecDepth 200000 in
theorem h9_15 : H9.2 15 = M09.2 15 := rfl
set_option maxRecDepth 200000 in
theorem h9_16 : H9.2 16 = M09.2 16 := rfl
set_option maxRecDepth 200000 in
theorem h9_17 : H9.2 17 = M09.2 17 := rfl
set_option maxRecDepth 200000 in
theorem h9_18 : H9.2 18 = M09.2 18 := rfl
set_option maxRecDepth 200000 in
theorem h9_19 : H9.2 19 = M09.2 19 := rfl
set_option maxRecDepth 200000 in
theorem h9_20 : H9.2 20 = M09.2 20 := rfl
set_option maxRecDepth 200000 in
theorem h9_21 : H9.2 21 = M09.2 21 := rfl
set_option maxRecDepth 200000 in
theorem h9_22 : H9.2 22 = M09.2 22 := rfl
set_option maxRecDepth 200000 in
theorem h9_23 : H9.2 23 = M09.2 23 := rfl
set_option maxRecDepth 200000 in
theorem h9_24 : H9.2 24 = M09.2 24 := rfl
set_option maxRecDepth 200000 in
theorem h9_25 : H9.2 25 = M09.2 25 := rfl
set_option maxRecDepth 200000 in
theorem h9_26 : H9.2 26 = M09.2 26 := rfl
set_option maxRecDepth 200000 in
theorem h9_27 : H9.2 27 = M09.2 27 := rfl
set_option maxRecDepth 200000 in
theorem h9_28 : H9.2 28 = M09.2 28 := rfl
set_option maxRecDepth 200000 in
theorem h9_29 : H9.2 29 = M09.2 29 := rfl
set_option maxRecDepth 200000 in
theorem h9_30 : H9.2 30 = M09.2 30 := rfl
set_option maxRecDepth 200000 in
theorem h9_31 : H9.2 31 = M09.2 31 := rfl
set_option maxRecDepth 200000 in
theorem h9_32 : H9.2 32 = M09.2 32 := rfl
set_option maxRecDepth 200000 in
theorem h9_33 : H9.2 33 = M09.2 33 := rfl
set_option maxRecDepth 200000 in
theorem h9_34 : H9.2 34 = M09.2 34 := rfl
set_option maxRecDepth 200000 in
theorem h9_35 : H9.2 35 = M09.2 35 := rfl
set_option maxRecDepth 200000 in
theorem h9_36 : H9.2 36 = M09.2 36 := rfl
set_option maxRecDepth 200000 in
theorem h9_37 : H9.2 37 = M09.2 37 := rfl
set_option maxRecDepth 200000 in
theorem h9_38 : H9.2 38 = M09.2 38 := rfl
set_option maxRecDepth 200000 in
theorem h9_39 : H9.2 39 = M09.2 39 := rfl
set_option maxRecDepth 200000 in
theorem h9_40 : H9.2 40 = M09.2 40 := rfl
set_option maxRecDepth 200000 in
theorem h9_41 : H9.2 41 = M09.2 41 := rfl
set_option maxRecDepth 200000 in
theorem h9_42 : H9.2 42 = M09.2 42 := rfl
set_option maxRecDepth 200000 in
theorem h9_43 : H9.2 43 = M09.2 43 := rfl
set_option maxRecDepth 200000 in
theorem h9_44 : H9.2 44 = M09.2 44 := rfl
set_option maxRecDepth 200000 in
theorem h9_45 : H9.2 45 = M09.2 45 := rfl
set_option maxRecDepth 200000 in
theorem h9_46 : H9.2 46 = M09.2 46 := rfl
set_option maxRecDepth 200000 in
theorem h9_47 : H9.2 47 = M09.2 47 := rfl
set_option maxRecDepth 200000 in
theorem h9_48 : H9.2 48 = M09.2 48 := rfl
set_option maxRecDepth 200000 in
theorem h9_49 : H9.2 49 = M09.2 49 := rfl
set_option maxRecDepth 200000 in
theorem h9_50 : H9.2 50 = M09.2 50 := rfl
set_option maxRecDepth 200000 in
theorem h9_51 : H9.2 51 = M09.2 51 := rfl
set_option maxRecDepth 200000 in
theorem h9_52 : H9.2 52 = M09.2 52 := rfl
set_option maxRecDepth 200000 in
theorem h9_53 : H9.2 53 = M09.2 53 := rfl
set_option maxRecDepth 200000 in
theorem h9_54 : H9.2 54 = M09.2 54 := rfl
set_option maxRecDepth 200000 in
theorem h9_55 : H9.2 55 = M09.2 55 := rfl
set_option maxRecDepth 200000 in
theorem h9_56 : H9.2 56 = M09.2 56 := rfl
set_option maxRecDepth 200000 in
theorem h9_57 : H9.2 57 = M09.2 57 := rfl
set_option maxRecDepth 200000 in
theorem h9_58 : H9.2 58 = M09.2 58 := rfl
set_option maxRecDepth 200000 in
theorem h9_59 : H9.2 59 = M09.2 59 := rfl
set_option maxRecDepth 200000 in
theorem h9_60 : H9.2 60 = M09.2 60 := rfl
set_option maxRecDepth 200000 in
theorem h9_61 : H9.2 61 = M09.2 61 := rfl
set_option maxRecDepth 200000 in
theorem h9_62 : H9.2 62 = M09.2 62 := rfl
set_option maxRecDepth 200000 in
theorem h9_63 : H9.2 63 = M09.2 63 := rfl
set_option maxRecDepth 200000 in
theorem h9_64 : H9.2 64 = M09.2 64 := rfl
set_option maxRecDepth 200000 in
theorem h9_65 : H9.2 65 = M09.2 65 := rfl
set_option maxRecDepth 200000 in
theorem h9_66 : H9.2 66 = M09.2 66 := rfl
set_option maxRecDepth 200000 in
theorem h9_67 : H9.2 67 = M09.2 67 := rfl
set_option maxRecDepth 200000 in
theorem h9_68 : H9.2 68 = M09.2 68 := rfl
set_option maxRecDepth 200000 in
theorem h9_69 : H9.2 69 = M09.2 69 := rfl
set_option maxRecDepth 200000 in
theorem h9_70 : H9.2 70 = M09.2 70 := rfl
set_option maxRecDepth 200000 in
theorem h9_71 : H9.2 71 = M09.2 71 := rfl
set_option maxRecDepth 200000 in
theorem h9_72 : H9.2 72 = M09.2 72 := rfl
set_option maxRecDepth 200000 in
theorem h9_73 : H9.2 73 = M09.2 73 := rfl
set_option maxRecDepth 200000 in
theorem h9_74 : H9.2 74 = M09.2 74 := rfl
set_option maxRecDepth 200000 in
theorem h9_75 : H9.2 75 = M09.2 75 := rfl
set_option maxRecDepth 200000 in
theorem h9_76 : H9.2 76 = M09.2 76 := rfl
set_option maxRecDepth 200000 in
theorem h9_77 : H9.2 77 = M09.2 77 := rfl
set_option maxRecDepth 200000 in
theorem h9_78 : H9.2 78 = M09.2 78 := rfl
set_option maxRecDepth 200000 in
theorem h9_79 : H9.2 79 = M09.2 79 := rfl
set_option maxRecDepth 200000 in
theorem h9_80 : H9.2 80 = M09.2 80 := rfl
set_option maxRecDepth 200000 in
theorem h9_o (k : Nat) : H9.2 (k + 81) = none := rfl
theorem h9_all : ∀ k, H9.2 k = M09.2 k
  | 0 => h9_0
  | 1 => h9_1
  | 2 => h9_2
  | 3 => h9_3
  | 4 => h9_4
  | 5 => h9_5
  | 6 => h9_6
  | 7 => h9_7
  | 8 => h9_8
  | 9 => h9_9
  | 10 => h9_10
  | 11 => h9_11
  | 12 => h9_12
  | 13 => h9_13
  | 14 => h9_14
  | 15 => h9_15
  | 16 => h9_16
  | 17 => h9_17
  | 18 => h9_18
  | 19 => h9_19
  | 20 => h9_20
  | 21 => h9_21
  | 22 => h9_22
  | 23 => h9_23
  | 24 => h9_24
  | 25 => h9_25
  | 26 => h9_26
  | 27 => h9_27
  | 28 => h9_28
  | 29 => h9_29
  | 30 => h9_30
  | 31 => h9_31
  | 32 => h9_32
  | 33 => h9_33
  | 34 => h9_34
  | 35 => h9_35
  | 36 => h9_36
  | 37 => h9_37
  | 38 => h9_38
  | 39 => h9_39
  | 40 => h9_40
  | 41 => h9_41
  | 42 => h9_42
  | 43 => h9_43
  | 44 => h9_44
  | 45 => h9_45
  | 46 => h9_46
  | 47 => h9_47
  | 48 => h9_48
  | 49 => h9_49
  | 50 => h9_50
  | 51 => h9_51
  | 52 => h9_52
  | 53 => h9_53
  | 54 => h9_54
  | 55 => h9_55
  | 56 => h9_56
  | 57 => h9_57
  | 58 => h9_58
  | 59 => h9_59
  | 60 => h9_60
  | 61 => h9_61
  | 62 => h9_62
  | 63 => h9_63
  | 64 => h9_64
  | 65 => h9_65
  | 66 => h9_66
  | 67 => h9_67
  | 68 => h9_68
  | 69 => h9_69
  | 70 => h9_70
  | 71 => h9_71
  | 72 => h9_72
  | 73 => h9_73
  | 74 => h9_74
  | 75 => h9_75
  | 76 => h9_76
  | 77 => h9_77
  | 78 => h9_78
  | 79 => h9_79
  | 80 => h9_80
  | k + 81 => by
    rw [h9_o]
    show none = cel (k + 81) (x09 (k + 81)) 0 (fun _ => 0) (fun _ => 0) (fun _ => none) false false
    unfold cel
    rw [shp_no (by omega)]
    rfl
theorem h9_M : H9 = M09 := Prod.ext h9_n (funext h9_all)
def S09 : St := (0, fun _ => 0, 0, (0, 0, 0, fun _ => 0), 0, fun _ => (0, 0, 0, fun _ => 0), fun _ => none, none, fun _ => 0)
theorem wf_0 : WF 0 0 0 (fun _ => 0) := ⟨by decide, by decide, by decide, by decide, fun d _ => Or.inl rfl, fun d e _ _ _ h => absurd rfl h⟩
theorem inv_start : INVp PCc H9 := by
  refine ⟨81, x09, 0, fun _ _ => 0, fun _ _ => 0, fun _ _ => none, fun _ => false, S09, h9_M, ⟨⟨by decide, fun k h => by cases h⟩, ⟨fun i a _ h => ?_, fun i j a _ _ h => ?_⟩, ⟨by decide, rfl, fun j h => absurd h (Nat.not_lt_zero j)⟩, rfl, ⟨wf_0, rfl, rfl, rfl, fun _ _ => rfl⟩, ⟨by decide, rfl, 0, by decide, rfl, fun k h => absurd h (Nat.not_lt_zero k)⟩, fun k _ => rfl, ⟨⟨by decide, fun j h => absurd h (Nat.not_lt_zero j), fun d _ ⟨j, h, _⟩ => absurd h (Nat.not_lt_zero j)⟩, rfl, fun j h => absurd h (Nat.not_lt_zero j), fun d _ _ => rfl⟩, Or.inl rfl⟩, ⟨⟨rfl, fun j h => absurd h (Nat.not_lt_zero j)⟩, rfl, ⟨rfl, rfl, rfl, fun _ _ => rfl⟩, ⟨rfl, fun k h => absurd h (Nat.not_lt_zero k)⟩, fun k _ => rfl, rfl, fun j h => absurd h (Nat.not_lt_zero j)⟩⟩
  · unfold rq at h
    split at h <;> cases h
  · unfold rq at h
    split at h <;> cases h
