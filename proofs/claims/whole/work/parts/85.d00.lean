/-! the search, piece by piece -/
theorem d_1 : dfs 11 3 (tExt (tExt (tExt (tExt 1 1 1) 2 2) 3 3) 4 4) 4 = true := by decide +kernel
theorem d_2 : dfs 10 3 (tExt (tExt (tExt (tExt 1 1 1) 2 2) 3 3) 5 4) 4 = true := by decide +kernel
theorem d_3 : dfs 10 4 (tExt (tExt (tExt 1 1 1) 2 2) 3 3) 3 = true := by decide +kernel
theorem d_4 : tOk (tExt (tExt (tExt (tExt 1 1 1) 2 2) 3 3) 5 4) 4 = true := by decide +kernel
theorem d_5 : dfs 11 4 (tExt (tExt (tExt 1 1 1) 2 2) 3 3) 3 = true := dfs_cons (f := 10) (r := 3) (A := (tExt (tExt (tExt 1 1 1) 2 2) 3 3)) (k := 3) (by decide) d_4 d_2 d_3
theorem d_6 : tOk (tExt (tExt (tExt (tExt 1 1 1) 2 2) 3 3) 4 4) 4 = true := by decide +kernel
theorem d_7 : dfs 12 4 (tExt (tExt (tExt 1 1 1) 2 2) 3 3) 3 = true := dfs_cons (f := 11) (r := 3) (A := (tExt (tExt (tExt 1 1 1) 2 2) 3 3)) (k := 3) (by decide) d_6 d_1 d_5
theorem d_8 : dfs 10 3 (tExt (tExt (tExt (tExt 1 1 1) 2 2) 4 3) 5 4) 4 = true := by decide +kernel
theorem d_9 : dfs 10 4 (tExt (tExt (tExt 1 1 1) 2 2) 4 3) 3 = true := by decide +kernel
theorem d_10 : tOk (tExt (tExt (tExt (tExt 1 1 1) 2 2) 4 3) 5 4) 4 = true := by decide +kernel
theorem d_11 : dfs 11 4 (tExt (tExt (tExt 1 1 1) 2 2) 4 3) 3 = true := dfs_cons (f := 10) (r := 3) (A := (tExt (tExt (tExt 1 1 1) 2 2) 4 3)) (k := 3) (by decide) d_10 d_8 d_9
theorem d_12 : dfs 10 4 (tExt (tExt (tExt 1 1 1) 2 2) 5 3) 3 = true := by decide +kernel
theorem d_13 : dfs 10 5 (tExt (tExt 1 1 1) 2 2) 2 = true := by decide +kernel
theorem d_14 : tOk (tExt (tExt (tExt 1 1 1) 2 2) 5 3) 3 = true := by decide +kernel
theorem d_15 : dfs 11 5 (tExt (tExt 1 1 1) 2 2) 2 = true := dfs_cons (f := 10) (r := 4) (A := (tExt (tExt 1 1 1) 2 2)) (k := 2) (by decide) d_14 d_12 d_13
theorem d_16 : tOk (tExt (tExt (tExt 1 1 1) 2 2) 4 3) 3 = true := by decide +kernel
theorem d_17 : dfs 12 5 (tExt (tExt 1 1 1) 2 2) 2 = true := dfs_cons (f := 11) (r := 4) (A := (tExt (tExt 1 1 1) 2 2)) (k := 2) (by decide) d_16 d_11 d_15
theorem d_18 : tOk (tExt (tExt (tExt 1 1 1) 2 2) 3 3) 3 = true := by decide +kernel
theorem d_19 : dfs 13 5 (tExt (tExt 1 1 1) 2 2) 2 = true := dfs_cons (f := 12) (r := 4) (A := (tExt (tExt 1 1 1) 2 2)) (k := 2) (by decide) d_18 d_7 d_17
