/-! the search, piece by piece -/
theorem d_20 : dfs 10 3 (tExt (tExt (tExt (tExt 1 1 1) 3 2) 4 3) 5 4) 4 = true := by decide +kernel
theorem d_21 : dfs 10 4 (tExt (tExt (tExt 1 1 1) 3 2) 4 3) 3 = true := by decide +kernel
theorem d_22 : tOk (tExt (tExt (tExt (tExt 1 1 1) 3 2) 4 3) 5 4) 4 = true := by decide +kernel
theorem d_23 : dfs 11 4 (tExt (tExt (tExt 1 1 1) 3 2) 4 3) 3 = true := dfs_cons (f := 10) (r := 3) (A := (tExt (tExt (tExt 1 1 1) 3 2) 4 3)) (k := 3) (by decide) d_22 d_20 d_21
theorem d_24 : dfs 10 4 (tExt (tExt (tExt 1 1 1) 3 2) 5 3) 3 = true := by decide +kernel
theorem d_25 : dfs 10 5 (tExt (tExt 1 1 1) 3 2) 2 = true := by decide +kernel
theorem d_26 : tOk (tExt (tExt (tExt 1 1 1) 3 2) 5 3) 3 = true := by decide +kernel
theorem d_27 : dfs 11 5 (tExt (tExt 1 1 1) 3 2) 2 = true := dfs_cons (f := 10) (r := 4) (A := (tExt (tExt 1 1 1) 3 2)) (k := 2) (by decide) d_26 d_24 d_25
theorem d_28 : tOk (tExt (tExt (tExt 1 1 1) 3 2) 4 3) 3 = true := by decide +kernel
theorem d_29 : dfs 12 5 (tExt (tExt 1 1 1) 3 2) 2 = true := dfs_cons (f := 11) (r := 4) (A := (tExt (tExt 1 1 1) 3 2)) (k := 2) (by decide) d_28 d_23 d_27
theorem d_30 : dfs 10 4 (tExt (tExt (tExt 1 1 1) 4 2) 5 3) 3 = true := by decide +kernel
theorem d_31 : dfs 10 5 (tExt (tExt 1 1 1) 4 2) 2 = true := by decide +kernel
theorem d_32 : tOk (tExt (tExt (tExt 1 1 1) 4 2) 5 3) 3 = true := by decide +kernel
theorem d_33 : dfs 11 5 (tExt (tExt 1 1 1) 4 2) 2 = true := dfs_cons (f := 10) (r := 4) (A := (tExt (tExt 1 1 1) 4 2)) (k := 2) (by decide) d_32 d_30 d_31
theorem d_34 : dfs 10 5 (tExt (tExt 1 1 1) 5 2) 2 = true := by decide +kernel
theorem d_35 : dfs 9 5 (tExt (tExt 1 1 1) 6 2) 2 = true := by decide +kernel
theorem d_36 : dfs 9 6 (tExt 1 1 1) 1 = true := by decide +kernel
theorem d_37 : tOk (tExt (tExt 1 1 1) 6 2) 2 = true := by decide +kernel
theorem d_38 : dfs 10 6 (tExt 1 1 1) 1 = true := dfs_cons (f := 9) (r := 5) (A := (tExt 1 1 1)) (k := 1) (by decide) d_37 d_35 d_36
