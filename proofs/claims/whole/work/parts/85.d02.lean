/-! the search, piece by piece -/
theorem d_39 : tOk (tExt (tExt 1 1 1) 5 2) 2 = true := by decide +kernel
theorem d_40 : dfs 11 6 (tExt 1 1 1) 1 = true := dfs_cons (f := 10) (r := 5) (A := (tExt 1 1 1)) (k := 1) (by decide) d_39 d_34 d_38
theorem d_41 : tOk (tExt (tExt 1 1 1) 4 2) 2 = true := by decide +kernel
theorem d_42 : dfs 12 6 (tExt 1 1 1) 1 = true := dfs_cons (f := 11) (r := 5) (A := (tExt 1 1 1)) (k := 1) (by decide) d_41 d_33 d_40
theorem d_43 : tOk (tExt (tExt 1 1 1) 3 2) 2 = true := by decide +kernel
theorem d_44 : dfs 13 6 (tExt 1 1 1) 1 = true := dfs_cons (f := 12) (r := 5) (A := (tExt 1 1 1)) (k := 1) (by decide) d_43 d_29 d_42
theorem d_45 : tOk (tExt (tExt 1 1 1) 2 2) 2 = true := by decide +kernel
theorem d_46 : dfs 14 6 (tExt 1 1 1) 1 = true := dfs_cons (f := 13) (r := 5) (A := (tExt 1 1 1)) (k := 1) (by decide) d_45 d_19 d_44
theorem d_47 : dfs 10 3 (tExt (tExt (tExt (tExt 1 2 1) 3 2) 4 3) 5 4) 4 = true := by decide +kernel
theorem d_48 : dfs 10 4 (tExt (tExt (tExt 1 2 1) 3 2) 4 3) 3 = true := by decide +kernel
theorem d_49 : tOk (tExt (tExt (tExt (tExt 1 2 1) 3 2) 4 3) 5 4) 4 = true := by decide +kernel
theorem d_50 : dfs 11 4 (tExt (tExt (tExt 1 2 1) 3 2) 4 3) 3 = true := dfs_cons (f := 10) (r := 3) (A := (tExt (tExt (tExt 1 2 1) 3 2) 4 3)) (k := 3) (by decide) d_49 d_47 d_48
theorem d_51 : dfs 10 4 (tExt (tExt (tExt 1 2 1) 3 2) 5 3) 3 = true := by decide +kernel
theorem d_52 : dfs 10 5 (tExt (tExt 1 2 1) 3 2) 2 = true := by decide +kernel
theorem d_53 : tOk (tExt (tExt (tExt 1 2 1) 3 2) 5 3) 3 = true := by decide +kernel
theorem d_54 : dfs 11 5 (tExt (tExt 1 2 1) 3 2) 2 = true := dfs_cons (f := 10) (r := 4) (A := (tExt (tExt 1 2 1) 3 2)) (k := 2) (by decide) d_53 d_51 d_52
theorem d_55 : tOk (tExt (tExt (tExt 1 2 1) 3 2) 4 3) 3 = true := by decide +kernel
theorem d_56 : dfs 12 5 (tExt (tExt 1 2 1) 3 2) 2 = true := dfs_cons (f := 11) (r := 4) (A := (tExt (tExt 1 2 1) 3 2)) (k := 2) (by decide) d_55 d_50 d_54
theorem d_57 : dfs 10 4 (tExt (tExt (tExt 1 2 1) 4 2) 5 3) 3 = true := by decide +kernel
