/-! the search, piece by piece -/
theorem d_77 : dfs 9 5 (tExt (tExt 1 3 1) 6 2) 2 = true := by decide +kernel
theorem d_78 : dfs 9 6 (tExt 1 3 1) 1 = true := by decide +kernel
theorem d_79 : tOk (tExt (tExt 1 3 1) 6 2) 2 = true := by decide +kernel
theorem d_80 : dfs 10 6 (tExt 1 3 1) 1 = true := dfs_cons (f := 9) (r := 5) (A := (tExt 1 3 1)) (k := 1) (by decide) d_79 d_77 d_78
theorem d_81 : tOk (tExt (tExt 1 3 1) 5 2) 2 = true := by decide +kernel
theorem d_82 : dfs 11 6 (tExt 1 3 1) 1 = true := dfs_cons (f := 10) (r := 5) (A := (tExt 1 3 1)) (k := 1) (by decide) d_81 d_76 d_80
theorem d_83 : tOk (tExt (tExt 1 3 1) 4 2) 2 = true := by decide +kernel
theorem d_84 : dfs 12 6 (tExt 1 3 1) 1 = true := dfs_cons (f := 11) (r := 5) (A := (tExt 1 3 1)) (k := 1) (by decide) d_83 d_75 d_82
theorem d_85 : dfs 10 5 (tExt (tExt 1 4 1) 5 2) 2 = true := by decide +kernel
theorem d_86 : dfs 9 5 (tExt (tExt 1 4 1) 6 2) 2 = true := by decide +kernel
theorem d_87 : dfs 9 6 (tExt 1 4 1) 1 = true := by decide +kernel
theorem d_88 : tOk (tExt (tExt 1 4 1) 6 2) 2 = true := by decide +kernel
theorem d_89 : dfs 10 6 (tExt 1 4 1) 1 = true := dfs_cons (f := 9) (r := 5) (A := (tExt 1 4 1)) (k := 1) (by decide) d_88 d_86 d_87
theorem d_90 : tOk (tExt (tExt 1 4 1) 5 2) 2 = true := by decide +kernel
theorem d_91 : dfs 11 6 (tExt 1 4 1) 1 = true := dfs_cons (f := 10) (r := 5) (A := (tExt 1 4 1)) (k := 1) (by decide) d_90 d_85 d_89
theorem d_92 : dfs 9 5 (tExt (tExt 1 5 1) 6 2) 2 = true := by decide +kernel
theorem d_93 : dfs 9 6 (tExt 1 5 1) 1 = true := by decide +kernel
theorem d_94 : tOk (tExt (tExt 1 5 1) 6 2) 2 = true := by decide +kernel
theorem d_95 : dfs 10 6 (tExt 1 5 1) 1 = true := dfs_cons (f := 9) (r := 5) (A := (tExt 1 5 1)) (k := 1) (by decide) d_94 d_92 d_93
