/-! the search, piece by piece -/
theorem d_58 : dfs 10 5 (tExt (tExt 1 2 1) 4 2) 2 = true := by decide +kernel
theorem d_59 : tOk (tExt (tExt (tExt 1 2 1) 4 2) 5 3) 3 = true := by decide +kernel
theorem d_60 : dfs 11 5 (tExt (tExt 1 2 1) 4 2) 2 = true := dfs_cons (f := 10) (r := 4) (A := (tExt (tExt 1 2 1) 4 2)) (k := 2) (by decide) d_59 d_57 d_58
theorem d_61 : dfs 10 5 (tExt (tExt 1 2 1) 5 2) 2 = true := by decide +kernel
theorem d_62 : dfs 9 5 (tExt (tExt 1 2 1) 6 2) 2 = true := by decide +kernel
theorem d_63 : dfs 9 6 (tExt 1 2 1) 1 = true := by decide +kernel
theorem d_64 : tOk (tExt (tExt 1 2 1) 6 2) 2 = true := by decide +kernel
theorem d_65 : dfs 10 6 (tExt 1 2 1) 1 = true := dfs_cons (f := 9) (r := 5) (A := (tExt 1 2 1)) (k := 1) (by decide) d_64 d_62 d_63
theorem d_66 : tOk (tExt (tExt 1 2 1) 5 2) 2 = true := by decide +kernel
theorem d_67 : dfs 11 6 (tExt 1 2 1) 1 = true := dfs_cons (f := 10) (r := 5) (A := (tExt 1 2 1)) (k := 1) (by decide) d_66 d_61 d_65
theorem d_68 : tOk (tExt (tExt 1 2 1) 4 2) 2 = true := by decide +kernel
theorem d_69 : dfs 12 6 (tExt 1 2 1) 1 = true := dfs_cons (f := 11) (r := 5) (A := (tExt 1 2 1)) (k := 1) (by decide) d_68 d_60 d_67
theorem d_70 : tOk (tExt (tExt 1 2 1) 3 2) 2 = true := by decide +kernel
theorem d_71 : dfs 13 6 (tExt 1 2 1) 1 = true := dfs_cons (f := 12) (r := 5) (A := (tExt 1 2 1)) (k := 1) (by decide) d_70 d_56 d_69
theorem d_72 : dfs 10 4 (tExt (tExt (tExt 1 3 1) 4 2) 5 3) 3 = true := by decide +kernel
theorem d_73 : dfs 10 5 (tExt (tExt 1 3 1) 4 2) 2 = true := by decide +kernel
theorem d_74 : tOk (tExt (tExt (tExt 1 3 1) 4 2) 5 3) 3 = true := by decide +kernel
theorem d_75 : dfs 11 5 (tExt (tExt 1 3 1) 4 2) 2 = true := dfs_cons (f := 10) (r := 4) (A := (tExt (tExt 1 3 1) 4 2)) (k := 2) (by decide) d_74 d_72 d_73
theorem d_76 : dfs 10 5 (tExt (tExt 1 3 1) 5 2) 2 = true := by decide +kernel
