/-! the search, piece by piece -/
theorem d_96 : dfs 9 6 (tExt 1 6 1) 1 = true := by decide +kernel
theorem d_97 : dfs 9 7 1 0 = true := by decide +kernel
theorem d_98 : tOk (tExt 1 6 1) 1 = true := by decide +kernel
theorem d_99 : dfs 10 7 1 0 = true := dfs_cons (f := 9) (r := 6) (A := 1) (k := 0) (by decide) d_98 d_96 d_97
theorem d_100 : tOk (tExt 1 5 1) 1 = true := by decide +kernel
theorem d_101 : dfs 11 7 1 0 = true := dfs_cons (f := 10) (r := 6) (A := 1) (k := 0) (by decide) d_100 d_95 d_99
theorem d_102 : tOk (tExt 1 4 1) 1 = true := by decide +kernel
theorem d_103 : dfs 12 7 1 0 = true := dfs_cons (f := 11) (r := 6) (A := 1) (k := 0) (by decide) d_102 d_91 d_101
theorem d_104 : tOk (tExt 1 3 1) 1 = true := by decide +kernel
theorem d_105 : dfs 13 7 1 0 = true := dfs_cons (f := 12) (r := 6) (A := 1) (k := 0) (by decide) d_104 d_84 d_103
theorem d_106 : tOk (tExt 1 2 1) 1 = true := by decide +kernel
theorem d_107 : dfs 14 7 1 0 = true := dfs_cons (f := 13) (r := 6) (A := 1) (k := 0) (by decide) d_106 d_71 d_105
theorem d_108 : tOk (tExt 1 1 1) 1 = true := by decide +kernel
theorem d_109 : dfs 15 7 1 0 = true := dfs_cons (f := 14) (r := 6) (A := 1) (k := 0) (by decide) d_108 d_46 d_107
