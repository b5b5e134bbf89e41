/-! doesFit(), by hand: printed by h_df.py -/
def nkd0_sp : List (Nat × nkSp) := [(277, [(0, (2, 0), [59]), (0, (2, 0), [56]), (0, (2, 0), [57]), (0, (2, 0), [52]), (0, (2, 0), [53]), (0, (2, 0), [54]), (0, (2, 0), [55]), (0, (2, 0), [60])])]
def nkd0_F (v : Nat) : nkS := (4, [(0, 18446744073709551616, 18446744073709551617), (0, 18446744071562067968, 18446744075857035263), (0, 18446744073709551616 + v, 18446744073709551616 + v), (2, 40, 0)], [], [3], [], [], [])
def nkd0_en (v : Nat) : nkIn := (277, 0, 0, 3, (3, [(0, 18446744071562067968, 18446744075857035263), (0, 18446744073709551616 + v, 18446744073709551616 + v), (2, 40, 0)], [], [], [], [], []), [], [nkd0_F v])
def nkd0_X5 (v : Nat) : nkS := (11, [(0, 18446744073709551616, 18446744073709551646), (2, 73, 0), (2, 72, 0), (2, 71, 0), (2, 70, 0), (2, 75, 0), (2, 74, 0), (2, 77, 0), (0, 18446744071562067968, 18446744075857035263), (0, 18446744073709551616 + v, 18446744073709551616 + v), (2, 40, 0)], [(0, 0), (1, 1), (2, 2)], [1, 3], [(0, 59, 3), (0, 56, 4), (0, 57, 5), (0, 52, 6), (0, 53, 7), (0, 54, 8), (0, 55, 9), (0, 60, 10)], [], [])
theorem nkd0_a : ∀ v, v < 36 → nk_sgM nkKds [] nkd0_sp 277 0 0 [] [(5, nkd0_X5 v, [])] 3 [] 300 (3, [(0, 18446744071562067968, 18446744075857035263), (0, 18446744073709551616 + v, 18446744073709551616 + v), (2, 40, 0)], [(0, 0), (1, 1), (2, 2)], [], [], [], []) 0 = true := by decide +kernel
def nkd0_R0 (v : Nat) : nkS := (13, [(0, 18446744073709551616, 18446744073709551616), (0, 18446744073709551616, 18446744073709551616), (0, 18446744073709551616, 18446744073709551646), (2, 73, 0), (2, 72, 0), (2, 71, 0), (2, 70, 0), (2, 75, 0), (2, 74, 0), (2, 77, 0), (0, 18446744071562067968, 18446744075857035263), (0, 18446744073709551616 + v, 18446744073709551616 + v), (2, 40, 0)], [], [12], [], [], [])
theorem nkd0_b0 : ∀ v, v < 36 → nk_sgM nkKds [] nkd0_sp 277 0 0 [] [] 12 [nkd0_R0 v] 300 (nk_push (nkd0_X5 v) [] (0, 18446744073709551616, 18446744073709551616)) 6 = true := by decide +kernel
def nkd0_L (v : Nat) : nkS := (12, [(0, 18446744073709551616, 18446744073709551646), (0, 18446744073709551616, 18446744073709551646), (2, 73, 0), (2, 72, 0), (2, 71, 0), (2, 70, 0), (2, 75, 0), (2, 74, 0), (2, 77, 0), (0, 18446744071562067968, 18446744075857035263), (0, 18446744073709551616 + v, 18446744073709551616 + v), (2, 40, 0)], [(0, 0), (1, 1), (2, 2), (3, 11)], [], [(0, 59, 3), (0, 56, 4), (0, 57, 5), (0, 52, 6), (0, 53, 7), (0, 54, 8), (0, 55, 9), (0, 60, 10)], [], [])
def nkd0_L0 (v : Nat) : nkS := (12, [(0, 18446744073709551616, 18446744073709551616), (0, 18446744073709551616, 18446744073709551646), (2, 73, 0), (2, 72, 0), (2, 71, 0), (2, 70, 0), (2, 75, 0), (2, 74, 0), (2, 77, 0), (0, 18446744071562067968, 18446744075857035263), (0, 18446744073709551616 + v, 18446744073709551616 + v), (2, 40, 0)], [(0, 0), (1, 1), (2, 2), (3, 11)], [], [(0, 59, 3), (0, 56, 4), (0, 57, 5), (0, 52, 6), (0, 53, 7), (0, 54, 8), (0, 55, 9), (0, 60, 10)], [], [])
theorem nkd0_b1 : ∀ v, v < 36 → nk_sgM nkKds [] nkd0_sp 277 0 0 [] [(13, nkd0_L0 v, [])] 11 [] 300 (nk_push (nkd0_X5 v) [] (0, 18446744073709551617, 18446744073709551617)) 6 = true := by decide +kernel
def nkd0_R1 (v : Nat) : nkS := (13, [(0, 18446744073709551617, 18446744073709551617), (0, 18446744073709551616, 18446744073709551646), (0, 18446744073709551616, 18446744073709551646), (2, 73, 0), (2, 72, 0), (2, 71, 0), (2, 70, 0), (2, 75, 0), (2, 74, 0), (2, 77, 0), (0, 18446744071562067968, 18446744075857035263), (0, 18446744073709551616 + v, 18446744073709551616 + v), (2, 40, 0)], [], [12], [], [(10, 11, 18446744073709551616)], [])
def nkd0_X26 (v : Nat) : nkS := (12, [(0, 18446744073709551616, 18446744073709551645), (0, 18446744073709551616, 18446744073709551646), (2, 73, 0), (2, 72, 0), (2, 71, 0), (2, 70, 0), (2, 75, 0), (2, 74, 0), (2, 77, 0), (0, 18446744071562067968, 18446744075857035263), (0, 18446744073709551616 + v, 18446744073709551616 + v), (2, 40, 0)], [(0, 0), (1, 1), (2, 2), (3, 11)], [11, 4], [(0, 59, 3), (0, 56, 4), (0, 57, 5), (0, 52, 6), (0, 53, 7), (0, 54, 8), (0, 55, 9), (0, 60, 10)], [(11, 10, 18446744073709551615)], [])
theorem nkd0_c : ∀ v, v < 36 → nk_sgM nkKds [] nkd0_sp 277 0 0 [] [(26, nkd0_X26 v, [])] 12 [nkd0_R1 v] 300 (nkd0_L v) 13 = true := by decide +kernel
def nkd0_Y98a (v : Nat) : nkS := (13, [(0, 18446744071562067968, 18446744075857035263), (0, 18446744073709551616, 18446744073709551645), (0, 18446744073709551616, 18446744073709551646), (2, 73, 0), (2, 72, 0), (2, 71, 0), (2, 70, 0), (2, 75, 0), (2, 74, 0), (2, 77, 0), (0, 18446744071562067968, 18446744075857035263), (0, 18446744073709551616 + v, 18446744073709551616 + v), (2, 40, 0)], [(0, 0), (1, 1), (2, 2), (3, 11)], [], [(0, 59, 3), (0, 56, 4), (0, 57, 5), (0, 52, 6), (0, 53, 7), (0, 54, 8), (0, 55, 9), (0, 60, 10)], [(2, 12, 18446744073709551615)], [])
def nkd0_X36 (v : Nat) : nkS := (13, [(0, 18446744071562067968, 18446744075857035263), (0, 18446744073709551616, 18446744073709551645), (0, 18446744073709551616, 18446744073709551646), (2, 73, 0), (2, 72, 0), (2, 71, 0), (2, 70, 0), (2, 75, 0), (2, 74, 0), (2, 77, 0), (0, 18446744071562067968, 18446744075857035263), (0, 18446744073709551616 + v, 18446744073709551616 + v), (2, 40, 0)], [(0, 0), (1, 1), (2, 2), (3, 11)], [11, 5], [(0, 59, 3), (0, 56, 4), (0, 57, 5), (0, 52, 6), (0, 53, 7), (0, 54, 8), (0, 55, 9), (0, 60, 10)], [(12, 2, 18446744073709551616)], [])
theorem nkd0_d : ∀ v, v < 36 → nk_sgM nkKds [] nkd0_sp 277 0 0 [] [(98, nkd0_Y98a v, []), (36, nkd0_X36 v, [])] 13 [] 300 (nk_push (nkd0_X26 v) [] (0, 18446744071562067968, 18446744075857035263)) 27 = true := by decide +kernel
def nkd0_X66 (v : Nat) : nkS := (13, [(0, 18446744073709551616 + 13 * v, 18446744073709551616 + 13 * v), (0, 18446744073709551616, 18446744073709551645), (0, 18446744073709551616, 18446744073709551646), (2, 73, 0), (2, 72, 0), (2, 71, 0), (2, 70, 0), (2, 75, 0), (2, 74, 0), (2, 77, 0), (0, 18446744071562067968, 18446744075857035263), (0, 18446744073709551616 + v, 18446744073709551616 + v), (2, 40, 0)], [(0, 0), (1, 1), (2, 2), (3, 11)], [11, 7, 12, 6], [(0, 59, 3), (0, 56, 4), (0, 57, 5), (0, 52, 6), (0, 53, 7), (0, 54, 8), (0, 55, 9), (0, 60, 10)], [], [])
theorem nkd0_e1 : ∀ v, v < 36 → nk_sgM nkKds [] nkd0_sp 277 0 0 [] [(66, nkd0_X66 v, [])] 12 [] 300 (nk_push (nkd0_X36 v) [] (0, 18446744071562067968, 18446744073709551615)) 37 = true := by decide +kernel
def nkd0_X45 (v : Nat) : nkS := (12, [(0, 18446744073709551616, 18446744073709551645), (0, 18446744073709551616, 18446744073709551646), (2, 73, 0), (2, 72, 0), (2, 71, 0), (2, 70, 0), (2, 75, 0), (2, 74, 0), (2, 77, 0), (0, 18446744071562067968, 18446744075857035263), (0, 18446744073709551616 + v, 18446744073709551616 + v), (2, 40, 0)], [(0, 0), (1, 1), (2, 2), (3, 11)], [11, 5], [(0, 59, 3), (0, 56, 4), (0, 57, 5), (0, 52, 6), (0, 53, 7), (0, 54, 8), (0, 55, 9), (0, 60, 10)], [], [])
theorem nkd0_e2 : ∀ v, v < 36 → nk_sgM nkKds [] nkd0_sp 277 0 0 [] [(45, nkd0_X45 v, [])] 12 [] 300 (nk_push (nkd0_X36 v) [] (0, 18446744073709551616, 18446744075857035263)) 37 = true := by decide +kernel
def nkd0_Y98b (v : Nat) : nkS := (13, [(0, 18446744073709551616, 18446744075857035263), (0, 18446744073709551616, 18446744073709551645), (0, 18446744073709551616, 18446744073709551646), (2, 73, 0), (2, 72, 0), (2, 71, 0), (2, 70, 0), (2, 75, 0), (2, 74, 0), (2, 77, 0), (0, 18446744071562067968, 18446744075857035263), (0, 18446744073709551616 + v, 18446744073709551616 + v), (2, 40, 0)], [(0, 0), (1, 1), (2, 2), (3, 11)], [], [(0, 59, 3), (0, 56, 4), (0, 57, 5), (0, 52, 6), (0, 53, 7), (0, 54, 8), (0, 55, 9), (0, 60, 10)], [(12, 2, 18446744073709551616)], [])
def nkd0_X66b (v : Nat) : nkS := (14, [(0, 18446744073709551616 + 13 * v, 18446744073709551616 + 13 * v), (0, 18446744073709551616, 18446744075857035263), (0, 18446744073709551616, 18446744073709551645), (0, 18446744073709551616, 18446744073709551646), (2, 73, 0), (2, 72, 0), (2, 71, 0), (2, 70, 0), (2, 75, 0), (2, 74, 0), (2, 77, 0), (0, 18446744071562067968, 18446744075857035263), (0, 18446744073709551616 + v, 18446744073709551616 + v), (2, 40, 0)], [(0, 0), (1, 1), (2, 2), (3, 11)], [11, 7, 13, 6], [(0, 59, 3), (0, 56, 4), (0, 57, 5), (0, 52, 6), (0, 53, 7), (0, 54, 8), (0, 55, 9), (0, 60, 10)], [(2, 12, 18446744073709551615)], [])
theorem nkd0_f : ∀ v, v < 36 → nk_sgM nkKds [] nkd0_sp 277 0 0 [] [(98, nkd0_Y98b v, []), (66, nkd0_X66b v, [])] 13 [] 300 (nk_push (nkd0_X45 v) [] (0, 18446744073709551616, 18446744075857035263)) 46 = true := by decide +kernel
def nkd0_X68 (v q : Nat) : nkS := (13, [(0, 18446744073709551616 + 13 * v + q, 18446744073709551616 + 13 * v + q), (0, 18446744073709551616, 18446744073709551645), (0, 18446744073709551616, 18446744073709551646), (2, 73, 0), (2, 72, 0), (2, 71, 0), (2, 70, 0), (2, 75, 0), (2, 74, 0), (2, 77, 0), (0, 18446744071562067968, 18446744075857035263), (0, 18446744073709551616, 18446744073709551651), (2, 40, 0)], [(0, 0), (1, 1), (2, 2), (3, 11)], [12, 6], [(0, 59, 3), (0, 56, 4), (0, 57, 5), (0, 52, 6), (0, 53, 7), (0, 54, 8), (0, 55, 9), (0, 60, 10)], [], [])
theorem nkd0_g1 : ∀ v, v < 36 → ∀ q, q < 13 → nk_sgM nkKds [] nkd0_sp 277 0 0 [] [(68, nkd0_X68 v q, [])] 12 [] 300 (nk_push (nkd0_X66 v) [12, 6] (0, 18446744073709551616 + q, 18446744073709551616 + q)) 67 = true := by decide +kernel
theorem nkd0_g2 : ∀ v, v < 36 → ∀ q, q < 13 → nk_sgM nkKds [] nkd0_sp 277 0 0 [] [(68, nkd0_X68 v q, [])] 12 [] 300 (nk_push (nkd0_X66b v) [13, 6] (0, 18446744073709551616 + q, 18446744073709551616 + q)) 67 = true := by decide +kernel
def nkd0_X68g : nkS := (13, [(0, 18446744073709551616, 18446744073709552083), (0, 18446744073709551616, 18446744073709551645), (0, 18446744073709551616, 18446744073709551646), (2, 73, 0), (2, 72, 0), (2, 71, 0), (2, 70, 0), (2, 75, 0), (2, 74, 0), (2, 77, 0), (0, 18446744071562067968, 18446744075857035263), (0, 18446744073709551616, 18446744073709551651), (2, 40, 0)], [(0, 0), (1, 1), (2, 2), (3, 11)], [12, 6], [(0, 59, 3), (0, 56, 4), (0, 57, 5), (0, 52, 6), (0, 53, 7), (0, 54, 8), (0, 55, 9), (0, 60, 10)], [], [])
def nkd0_X74 : nkS := (14, [(0, 18446744073709551616, 18446744073709551651), (0, 18446744073709551616, 18446744073709552083), (0, 18446744073709551616, 18446744073709551645), (0, 18446744073709551616, 18446744073709551646), (2, 73, 0), (2, 72, 0), (2, 71, 0), (2, 70, 0), (2, 75, 0), (2, 74, 0), (2, 77, 0), (0, 18446744071562067968, 18446744075857035263), (0, 18446744073709551616, 18446744073709551651), (2, 40, 0)], [(0, 0), (1, 1), (2, 2), (3, 11)], [11, 8, 13], [(0, 59, 3), (0, 56, 4), (0, 57, 5), (0, 52, 6), (0, 53, 7), (0, 54, 8), (0, 55, 9), (0, 60, 10)], [], [])
theorem nkd0_h : nk_sgM nkKds [] nkd0_sp 277 0 0 [] [(74, nkd0_X74, [])] 14 [] 300 (nk_push nkd0_X68g [] (0, 18446744073709551616, 18446744073709551651)) 69 = true := by decide +kernel
def nkd0_X920 : nkS := (13, [(0, 18446744073709551616, 18446744073709551616), (0, 18446744073709551616, 18446744073709551645), (0, 18446744073709551616, 18446744073709551646), (2, 73, 0), (2, 72, 0), (2, 71, 0), (2, 70, 0), (2, 75, 0), (2, 74, 0), (2, 77, 0), (0, 18446744071562067968, 18446744075857035263), (0, 18446744073709551616, 18446744073709551651), (2, 40, 0)], [(0, 0), (1, 1), (2, 2), (3, 11), (4, 12)], [11, 9, 12], [(0, 59, 3), (0, 56, 4), (0, 57, 5), (0, 52, 6), (0, 53, 7), (0, 54, 8), (0, 55, 9), (0, 60, 10)], [], [])
def nkd0_X921 : nkS := (13, [(0, 18446744073709551617, 18446744073709551617), (0, 18446744073709551616, 18446744073709551645), (0, 18446744073709551616, 18446744073709551646), (2, 73, 0), (2, 72, 0), (2, 71, 0), (2, 70, 0), (2, 75, 0), (2, 74, 0), (2, 77, 0), (0, 18446744071562067968, 18446744075857035263), (0, 18446744073709551616, 18446744073709551651), (2, 40, 0)], [(0, 0), (1, 1), (2, 2), (3, 11), (4, 12)], [11, 9, 12], [(0, 59, 3), (0, 56, 4), (0, 57, 5), (0, 52, 6), (0, 53, 7), (0, 54, 8), (0, 55, 9), (0, 60, 10)], [], [])
theorem nkd0_ie : ∀ q, q < 36 → nk_sgM nkKds [] nkd0_sp 277 0 0 [] [(92, nkd0_X921, [])] 12 [] 300 (nk_push (nk_set nkd0_X74 13 (0, 18446744073709551616 + q, 18446744073709551616 + q)) [13] (0, 18446744073709551616 + q, 18446744073709551616 + q)) 75 = true := by decide +kernel
theorem nkd0_il : ∀ q, q < 36 → nk_sgM nkKds [] nkd0_sp 277 0 0 [] [(92, nkd0_X920, [])] 12 [] 300 (nk_push (nk_set nkd0_X74 13 (0, 18446744073709551616 + q, 18446744073709551616 + q)) [13] (0, 18446744071562067968, 18446744073709551615 + q)) 75 = true := by decide +kernel
theorem nkd0_ig : ∀ q, q < 36 → nk_sgM nkKds [] nkd0_sp 277 0 0 [] [(92, nkd0_X920, [])] 12 [] 300 (nk_push (nk_set nkd0_X74 13 (0, 18446744073709551616 + q, 18446744073709551616 + q)) [13] (0, 18446744073709551616 + 1 + q, 18446744075857035263)) 75 = true := by decide +kernel
def nkd0_Y98 : nkS := (12, [(0, 18446744073709551616, 18446744073709551645), (0, 18446744073709551616, 18446744073709551646), (2, 73, 0), (2, 72, 0), (2, 71, 0), (2, 70, 0), (2, 75, 0), (2, 74, 0), (2, 77, 0), (0, 18446744071562067968, 18446744075857035263), (0, 18446744073709551616, 18446744073709551651), (2, 40, 0)], [(0, 0), (1, 1), (2, 2), (3, 11)], [], [(0, 59, 3), (0, 56, 4), (0, 57, 5), (0, 52, 6), (0, 53, 7), (0, 54, 8), (0, 55, 9), (0, 60, 10)], [], [])
def nkd0_R2 : nkS := (13, [(0, 18446744073709551616, 18446744073709551616), (0, 18446744073709551616, 18446744073709551645), (0, 18446744073709551616, 18446744073709551646), (2, 73, 0), (2, 72, 0), (2, 71, 0), (2, 70, 0), (2, 75, 0), (2, 74, 0), (2, 77, 0), (0, 18446744071562067968, 18446744075857035263), (0, 18446744073709551616, 18446744073709551651), (2, 40, 0)], [], [12], [], [], [])
theorem nkd0_j0e : nk_sgM nkKds [] nkd0_sp 277 0 0 [] [(98, nkd0_Y98, [])] 12 [] 300 (nk_push nkd0_X920 [12] (0, 18446744073709551616, 18446744073709551616)) 93 = true := by decide +kernel
theorem nkd0_j0l : nk_sgM nkKds [] nkd0_sp 277 0 0 [] [] 12 [nkd0_R2] 300 (nk_push nkd0_X920 [12] (0, 18446744071562067968, 18446744073709551615)) 93 = true := by decide +kernel
theorem nkd0_j0g : nk_sgM nkKds [] nkd0_sp 277 0 0 [] [] 12 [nkd0_R2] 300 (nk_push nkd0_X920 [12] (0, 18446744073709551617, 18446744075857035263)) 93 = true := by decide +kernel
theorem nkd0_j1e : nk_sgM nkKds [] nkd0_sp 277 0 0 [] [(98, nkd0_Y98, [])] 12 [] 300 (nk_push nkd0_X921 [12] (0, 18446744073709551617, 18446744073709551617)) 93 = true := by decide +kernel
theorem nkd0_j1l : nk_sgM nkKds [] nkd0_sp 277 0 0 [] [] 12 [nkd0_R2] 300 (nk_push nkd0_X921 [12] (0, 18446744071562067968, 18446744073709551616)) 93 = true := by decide +kernel
theorem nkd0_j1g : nk_sgM nkKds [] nkd0_sp 277 0 0 [] [] 12 [nkd0_R2] 300 (nk_push nkd0_X921 [12] (0, 18446744073709551618, 18446744075857035263)) 93 = true := by decide +kernel
def nkd0_Ln : nkS := (13, [(0, 18446744073709551617, 18446744073709551646), (0, 18446744073709551616, 18446744073709551645), (0, 18446744073709551616, 18446744073709551646), (2, 73, 0), (2, 72, 0), (2, 71, 0), (2, 70, 0), (2, 75, 0), (2, 74, 0), (2, 77, 0), (0, 18446744071562067968, 18446744075857035263), (0, 18446744073709551616, 18446744073709551651), (2, 40, 0)], [(0, 0), (1, 1), (2, 2), (3, 12)], [], [(0, 59, 3), (0, 56, 4), (0, 57, 5), (0, 52, 6), (0, 53, 7), (0, 54, 8), (0, 55, 9), (0, 60, 10)], [(12, 11, 18446744073709551617), (11, 12, 18446744073709551615)], [])
theorem nkd0_k : nk_sgM nkKds [] nkd0_sp 277 0 0 [] [(13, nkd0_Ln, [])] 12 [] 300 nkd0_Y98 98 = true := by decide +kernel
theorem nkd0_eL : ∀ v, v < 36 → nk_ent 11 (nkd0_L v) (nk_set nkd0_Ln 1 (0, 18446744073709551616 + v, 18446744073709551616 + v)) = some (12, [12, 10, 9, 8, 7, 6, 5, 4, 3, 2, 1, 0]) := by decide +kernel
theorem nkd0_e0 : ∀ v, v < 36 → nk_ent 11 (nkd0_L v) (nkd0_L0 v) = some (12, [11, 10, 9, 8, 7, 6, 5, 4, 3, 2, 1, 0]) := by decide +kernel
theorem nkd0_ea : ∀ v, v < 36 → nk_ent 12 nkd0_Y98 (nkd0_Y98a v) = some (12, [11, 10, 9, 8, 7, 6, 5, 4, 3, 2, 1, 0]) := by decide +kernel
theorem nkd0_eb : ∀ v, v < 36 → nk_ent 12 nkd0_Y98 (nkd0_Y98b v) = some (12, [11, 10, 9, 8, 7, 6, 5, 4, 3, 2, 1, 0]) := by decide +kernel
theorem nkd0_eg : ∀ v q, v < 36 → q < 13 → nk_ent 13 nkd0_X68g (nkd0_X68 v q) = some (13, nk_idl 13) := fun v q h1 h2 => (by decide +kernel : ∀ v, v < 36 → ∀ q, q < 13 → nk_ent 13 nkd0_X68g (nkd0_X68 v q) = some (13, nk_idl 13)) v h1 q h2
theorem nkd0_r0 : ∀ v, v < 36 → nk_ent 3 (nkd0_F v) (nkd0_R0 v) = some (4, [12, 2, 1, 0]) := by decide +kernel
theorem nkd0_s0 : ∀ v, v < 36 → nk_stB (nkd0_R0 v) = true := by decide +kernel
theorem nkd0_r1 : ∀ v, v < 36 → nk_ent 3 (nkd0_F v) (nkd0_R1 v) = some (4, [12, 2, 1, 0]) := by decide +kernel
theorem nkd0_s1 : ∀ v, v < 36 → nk_stB (nkd0_R1 v) = true := by decide +kernel
theorem nkd0_r2 : ∀ v, v < 36 → nk_ent 3 (nkd0_F v) (nk_set nkd0_R2 1 (0, 18446744073709551616 + v, 18446744073709551616 + v)) = some (4, [12, 2, 1, 0]) := by decide +kernel
theorem nkd0_s2 : ∀ v, v < 36 → nk_stB (nk_set nkd0_R2 1 (0, 18446744073709551616 + v, 18446744073709551616 + v)) = true := by decide +kernel
theorem nkd0_hd : ∀ v, v < 36 → nk_hdB (nkd0_en v) = true := by decide +kernel
theorem nkd0_lo : ∀ v, v < 36 → nk_lo0 (nkd0_en v).2.2.2.2.1 0 (List.range 3) = some [(0, 0), (1, 1), (2, 2)] := by decide +kernel
theorem nkd0_fn : ∀ f x, (0, f, x) ∈ (nkd0_X5 0).2.2.2.2.1 → f < 64 := fun f x h => by
  have h : (0, f, x) ∈ [(0, 59, 3), (0, 56, 4), (0, 57, 5), (0, 52, 6), (0, 53, 7), (0, 54, 8), (0, 55, 9), (0, 60, 10)] := h
  simp only [List.mem_cons, Prod.mk.injEq, List.not_mem_nil, or_false] at h
  omega
theorem nkd0_df (v : Nat) (hv36 : v < 36) : nkMetG nkKds (nkd0_en v) (fun _ _ _ => True) (fun E ρ H _ r _ _ => ∀ (a : Nat) (k : Int32), ρ 0 = .ref a → ρ 2 = .int k → (r = some (.int 1) ↔ nkDF E H a v k) ∧ (r = some (.int 1) ∨ r = some (.int 0))) := nk_handG (spt := nkd0_sp) (nkd0_hd v hv36) (fun {y lo0} hlo0 {p l e R s m args below meth c cc D Γ ρ ls} hh _ hR => by
  have hl : lo0 = [(0, 0), (1, 1), (2, 2)] := Option.some.inj (hlo0.symm.trans (nkd0_lo v hv36))
  subst hl
  obtain ⟨a0, ea0, hΓ0⟩ := nk_rf (hR.1.1 0 _ rfl)
  obtain ⟨kk, ekk, -, -⟩ := nk_int (hR.1.1 2 _ rfl)
  have e1 : ρ 1 = .int (nI v) := by
    obtain ⟨r, er, r1, r2⟩ := nk_int (hR.1.1 1 _ rfl)
    rw [er, nk_nI (x := r) (m := v) (by omega)]
  refine nk_segH (nk_nil _) (nkd0_a v hv36) rfl hh hR (fun ce hce ρ2 H2 l2 ls2 st2 hX2 hR2 hF2 => ?_) (fun a ha => by cases ha)
  obtain rfl := List.mem_singleton.mp hce
  have hR2 : nkR (D, nkKds, Γ) y.2.2.1 [] s.heap (nkd0_X5 v) ρ2 H2 l2 ls2 st2 := hR2
  show W p l e R s m args below meth c H2 l2 0 0 _ (F0 m 5 ls2 st2)
  have g0 : ρ2 0 = .ref a0 := (hX2 0 (by decide)).trans ea0
  have g1 : ρ2 1 = .int (nI v) := (hX2 1 (by decide)).trans e1
  have g2 : ρ2 2 = .int kk := (hX2 2 (by decide)).trans ekk
  obtain ⟨b1, h3, hΓ1⟩ := nk_rf (hR2.1.1 3 _ rfl)
  obtain ⟨bT, h4, hΓT⟩ := nk_rf (hR2.1.1 4 _ rfl)
  obtain ⟨bU, h5, hΓU⟩ := nk_rf (hR2.1.1 5 _ rfl)
  obtain ⟨bA, h6, hΓA⟩ := nk_rf (hR2.1.1 6 _ rfl)
  obtain ⟨bS, h7, hΓS⟩ := nk_rf (hR2.1.1 7 _ rfl)
  obtain ⟨bP, h8, hΓP⟩ := nk_rf (hR2.1.1 8 _ rfl)
  obtain ⟨bI, h9, hΓI⟩ := nk_rf (hR2.1.1 9 _ rfl)
  obtain ⟨sx, h10, sx1, sx2⟩ := nk_int (hR2.1.1 10 _ rfl)
  obtain ⟨sn, hsn, esn, fsn⟩ := nh_nI (x := sx) (by omega)
  rw [esn] at h10
  have k1 : nkKds[Γ b1]? = some (1, 3, 36, 1, [(0, 18446744073709551616, 18446744073709551617)]) := by rw [show Γ b1 = 77 from hΓ1]; rfl
  have kT : nkKds[Γ bT]? = some (1, 0, 30, 1, [(0, 18446744071562067968, 18446744075857035263)]) := by rw [show Γ bT = 74 from hΓT]; rfl
  have kU : nkKds[Γ bU]? = some (1, 0, 30, 1, [(0, 18446744071562067968, 18446744075857035263)]) := by rw [show Γ bU = 75 from hΓU]; rfl
  have kA : nkKds[Γ bA]? = some (1, 0, 468, 1, [(0, 18446744073709551616, 18446744073709551651)]) := by rw [show Γ bA = 70 from hΓA]; rfl
  have kS : nkKds[Γ bS]? = some (1, 0, 30, 1, [(0, 18446744073709551616, 18446744073709551628)]) := by rw [show Γ bS = 71 from hΓS]; rfl
  have kP : nkKds[Γ bP]? = some (1, 0, 30, 1, [(0, 18446744071562067968, 18446744075857035263)]) := by rw [show Γ bP = 72 from hΓP]; rfl
  have kI : nkKds[Γ bI]? = some (1, 0, 30, 1, [(0, 18446744071562067968, 18446744075857035263)]) := by rw [show Γ bI = 73 from hΓI]; rfl
  have fd0 : ∀ {f x : Nat}, (0, f, x) ∈ (nkd0_X5 0).2.2.2.2.1 → nkFd (D, nkKds, Γ) s.heap a0 f (ρ2 x) := fun {f x} hq => by
    obtain ⟨x0, q1, -⟩ := nkFd.some (E := (D, nkKds, Γ)) (f := f) hR.1.2.2.2.2.1 (a := a0) (ci := 12) (n := 64) (P := 0) (ts := nkKds_40.2.2.2.2) (by show nkKds[Γ a0]? = _; rw [show Γ a0 = 40 from hΓ0]; rfl) (nkd0_fn f x hq)
    have q2 := nkMe.fd (E := (D, nkKds, Γ)) hR2.1.2.1 (show (0, f, x) ∈ (nkd0_X5 v).2.2.2.2.1 from hq) g0
    have q3 := (q1.kept hF2.2.2.2 rfl).fn q2
    rw [← q3]
    exact q1
  have el : ∀ {H : Heap} {bX N ti : Nat} {tv : nkV} {z : Nat → Value}, nkKp (D, nkKds, Γ) [] s.heap H → nkKds[Γ bX]? = some (1, ti, N, 1, [tv]) → H[bX]? = some (arrV (D.2.2 ti) N z) → ∀ j, j < N → nkFd (D, nkKds, Γ) s.heap bX j (z j) := fun {H bX N ti tv z} hK hk hz j hj => by
    obtain ⟨z0, hz0, -⟩ := nk_cel1 (E := (D, nkKds, Γ)) hR.1.2.2.2.2.1 hk
    have h1 : z j = z0 j := nk_kpA (E := (D, nkKds, Γ)) hK hk rfl hj hz0 hz
    rw [h1]
    exact ⟨_, _, hk, hj, hz0, arrV_read _ _ hj⟩
  have hDF : nkDFa (D, nkKds, Γ) s.heap a0 b1 bT bU bA bS bP bI sn := ⟨h3 ▸ fd0 (by decide), h4 ▸ fd0 (by decide), h5 ▸ fd0 (by decide), h6 ▸ fd0 (by decide), h7 ▸ fd0 (by decide), h8 ▸ fd0 (by decide), h9 ▸ fd0 (by decide), h10 ▸ fd0 (by decide)⟩
  have ret : ∀ (a : nkS) (i : Nat) (σ : nkSg) (bv : Bool) (ρ5 : Nat → Value) (H5 : Heap) (r : Option Value) (t : State), nk_ent 3 (nkd0_F v) a = some σ → nk_stB a = true → nkX 3 ρ ρ5 → nkT (D, nkKds, Γ) a ρ5 H5 → nkFr (D, nkKds, Γ) [] s.heap H5 [] → nkRt a ρ5 r → t.heap = H5 → r = some (.int (cond bv 1 0)) → (bv = true ↔ nkDF (D, nkKds, Γ) s.heap a0 v kk) → nkQg (D, nkKds, Γ) [] [nkd0_F v] 3 ρ (fun H _ r _ _ => ∀ (a : Nat) (k : Int32), ρ 0 = .ref a → ρ 2 = .int k → (r = some (.int 1) ↔ nkDF (D, nkKds, Γ) H a v k) ∧ (r = some (.int 1) ∨ r = some (.int 0))) args s (.returned r) t := by
    intro a i σ bv ρ5 H5 r t hent hstb hX5 hT5 hF5 hv ht hr hiff
    refine nk_finG (F := nkd0_F v) hent hstb hT5 hX5 (by show 3 ≤ 4; decide) (List.mem_singleton.mpr rfl) hv ht hF5 ?_
    intro a k ea ek
    rw [ea0] at ea
    cases ea
    rw [ekk] at ek
    cases ek
    rw [hr]
    cases bv with
    | true => exact ⟨⟨fun _ => hiff.mp rfl, fun _ => rfl⟩, Or.inl rfl⟩
    | false => exact ⟨⟨fun q => absurd q (by decide), fun q => absurd (hiff.mpr q) (by decide)⟩, Or.inr rfl⟩
  have loop : ∀ (d n : Nat) (ρ3 : Nat → Value) (H3 : Heap) (l3 : List Loc) (ls3 : Array Slot) (st3 : List Value), sn - n = d → n ≤ sn → (∀ i, i < 11 → ρ3 i = ρ2 i) → ρ3 11 = .int (nI n) → nkR (D, nkKds, Γ) y.2.2.1 [] s.heap (nkd0_L v) ρ3 H3 l3 ls3 st3 → (∃ x : Int32, nkFd (D, nkKds, Γ) s.heap b1 v (.int x) ∧ x ≠ 0) → (∀ n', n' < n → nkDFc (D, nkKds, Γ) s.heap bT bU bA bS bP bI v n' kk) → W p l e R s m args below meth c H3 l3 0 0 (MQ below (nkQg (D, nkKds, Γ) [] [nkd0_F v] 3 ρ (fun H _ r _ _ => ∀ (a : Nat) (k : Int32), ρ 0 = .ref a → ρ 2 = .int k → (r = some (.int 1) ↔ nkDF (D, nkKds, Γ) H a v k) ∧ (r = some (.int 1) ∨ r = some (.int 0)))) args s 0 0 (nkA (D, nkKds, Γ))) (F0 m 13 ls3 st3) := by
    intro d
    induction d using Nat.strongRecOn with
    | ind d ih =>
      intro n ρ3 H3 l3 ls3 st3 hd hns y3 b11 hR3 hx1 hall
      refine nk_segH (nk_nil _) (nkd0_c v hv36) rfl hh hR3 (fun ce hce ρ4 H4 l4 ls4 st4 hX4 hR4 hF4 => ?_) (fun a ha ρ4 H4 r t hX4 hT4 hF4 hF5 hv ht => ?_)
      · obtain rfl := List.mem_singleton.mp hce
        have hR4 : nkR (D, nkKds, Γ) y.2.2.1 [] s.heap (nkd0_X26 v) ρ4 H4 l4 ls4 st4 := hR4
        show W p l e R s m args below meth c H4 l4 0 0 _ (F0 m 26 ls4 st4)
        have y4 : ∀ i, i < 11 → ρ4 i = ρ2 i := fun i hi => (hX4 i (by omega)).trans (y3 i hi)
        have c11 : ρ4 11 = .int (nI n) := (hX4 11 (by decide)).trans b11
        have hlt : n < sn := by
          have q := nk_di2 hR4.1.2.2.1 (a := 11) (b := 10) (c := 18446744073709551615) List.mem_cons_self c11 ((y4 10 (by decide)).trans h10)
          rw [nI_toInt (by omega), nI_toInt (by omega)] at q
          omega
        have hn30 : n < 30 := by omega
        -- where it goes on
        have next : ∀ (ρ9 : Nat → Value) (H9 : Heap) (l9 : List Loc) (ls9 : Array Slot) (st9 : List Value), (∀ i, i < 11 → ρ9 i = ρ2 i) → ρ9 11 = .int (nI n) → nkR (D, nkKds, Γ) y.2.2.1 [] s.heap nkd0_Y98 ρ9 H9 l9 ls9 st9 → nkDFc (D, nkKds, Γ) s.heap bT bU bA bS bP bI v n kk → W p l e R s m args below meth c H9 l9 0 0 (MQ below (nkQg (D, nkKds, Γ) [] [nkd0_F v] 3 ρ (fun H _ r _ _ => ∀ (a : Nat) (k : Int32), ρ 0 = .ref a → ρ 2 = .int k → (r = some (.int 1) ↔ nkDF (D, nkKds, Γ) H a v k) ∧ (r = some (.int 1) ∨ r = some (.int 0)))) args s 0 0 (nkA (D, nkKds, Γ))) (F0 m 98 ls9 st9) := by
          intro ρ9 H9 l9 ls9 st9 y9 d11 hR9 hc
          refine nk_segH (nk_nil _) nkd0_k rfl hh hR9 (fun ce hce ρa Ha la lsa sta hXa hRa hFa => ?_) (fun a ha => by cases ha)
          obtain rfl := List.mem_singleton.mp hce
          have hRa : nkR (D, nkKds, Γ) y.2.2.1 [] s.heap nkd0_Ln ρa Ha la lsa sta := hRa
          show W p l e R s m args below meth c Ha la 0 0 _ (F0 m 13 lsa sta)
          have ya : ∀ i, i < 11 → ρa i = ρ2 i := fun i hi => (hXa i (by omega)).trans (y9 i hi)
          have u12 : ρa 12 = .int (nI (n + 1)) := nk_dval hRa.1.2.2.1 (show (12, 11, 18446744073709551617) ∈ nkd0_Ln.2.2.2.2.2.1 by decide) (show (11, 12, 18446744073709551615) ∈ nkd0_Ln.2.2.2.2.2.1 by decide) ((hXa 11 (by decide)).trans d11) (by omega) (d := 1) (by omega) (by omega) (by omega)
          have hRb := nk_set_ok (i := 1) (v := (0, 18446744073709551616 + v, 18446744073709551616 + v)) hRa (by rw [(ya 1 (by decide)).trans g1]; exact nk_okI (by rw [nI_toInt (by omega)]; omega) (by rw [nI_toInt (by omega)]; omega))
          obtain ⟨hRc, hXc, -, -⟩ := nk_ent_ok (nkd0_eL v hv36) hRb
          exact ih (sn - (n + 1)) (by omega) (n + 1) _ Ha la lsa sta rfl (by omega) (fun i hi => (hXc i hi).trans (ya i hi)) u12 hRc hx1 (fun n' hn' => by
            by_cases h : n' = n
            · subst h
              exact hc
            · exact hall n' (by omega))
        obtain ⟨zT, hzT, -⟩ := nk_cel1 (E := (D, nkKds, Γ)) hR4.1.2.2.2.2.1 kT
        obtain ⟨xT, exT⟩ : ∃ xT : Int32, zT n = .int xT := by
          obtain ⟨zT', hzT', ht'⟩ := nk_cel1 (E := (D, nkKds, Γ)) hR4.1.2.2.2.2.1 kT
          obtain ⟨x, ex, -, -⟩ := nk_int (ht' n hn30)
          refine ⟨x, ?_⟩
          have h6 := arrV_read (D.2.2 0) zT hn30
          have h7 := arrV_read (D.2.2 0) zT' hn30
          have h8 := hzT.symm.trans hzT'
          rw [Option.some.inj h8, h7] at h6
          exact (Option.some.inj h6).symm.trans ex
        have fT : nkFd (D, nkKds, Γ) s.heap bT n (.int xT) := exT ▸ el hR4.2.2.2.2.2.2 kT hzT n hn30
        refine nk_hLd hh (show nk_dk (nk_nD nhDa 277 []) 26 = some (.iaload, 1) by decide +kernel) (S := nkd0_X26 v) (x := 11) (o := 4) (rest := []) rfl hR4 ((y4 4 (by decide)).trans h4) hzT c11 hn30 (by decide) exT (v := (0, 18446744071562067968, 18446744075857035263)) (nk_fl_ok Γ xT) (fun st5 hR5 => ?_)
        refine nk_segH (nk_nil _) (nkd0_d v hv36) rfl hh hR5 (fun ce hce ρ6 H6 l6 ls6 st6 hX6 hR6 hF6 => ?_) (fun a ha => by cases ha)
        have y6 : ∀ i, i < 12 → ρ6 i = ρ4 i := fun i hi => (hX6 i (by omega)).trans (nkX.push 12 ρ4 _ i hi)
        have y6' : ∀ i, i < 11 → ρ6 i = ρ2 i := fun i hi => (y6 i (by omega)).trans (y4 i hi)
        have d11 : ρ6 11 = .int (nI n) := (y6 11 (by decide)).trans c11
        have d12 : ρ6 12 = .int xT := (hX6 12 (by decide)).trans (nk_upd 12 ρ4 _)
        rcases List.mem_cons.mp hce with rfl | hce
        · have hR6 : nkR (D, nkKds, Γ) y.2.2.1 [] s.heap (nkd0_Y98a v) ρ6 H6 l6 ls6 st6 := hR6
          have q := nk_di2 hR6.1.2.2.1 (a := 2) (b := 12) (c := 18446744073709551615) List.mem_cons_self ((y6' 2 (by decide)).trans g2) d12
          obtain ⟨hR7, hX7, -, -⟩ := nk_ent_ok (nkd0_ea v hv36) hR6
          exact next _ H6 l6 ls6 st6 (fun i hi => (hX7 i (by omega)).trans (y6' i hi)) ((hX7 11 (by decide)).trans d11) hR7 (Or.inl ⟨xT, fT, by omega⟩)
        · obtain rfl := List.mem_singleton.mp hce
          have hR6 : nkR (D, nkKds, Γ) y.2.2.1 [] s.heap (nkd0_X36 v) ρ6 H6 l6 ls6 st6 := hR6
          show W p l e R s m args below meth c H6 l6 0 0 _ (F0 m 36 ls6 st6)
          have qT := nk_di2 hR6.1.2.2.1 (a := 12) (b := 2) (c := 18446744073709551616) List.mem_cons_self d12 ((y6' 2 (by decide)).trans g2)
          obtain ⟨zU, hzU, htU⟩ := nk_cel1 (E := (D, nkKds, Γ)) hR6.1.2.2.2.2.1 kU
          obtain ⟨xU, exU, -, -⟩ := nk_int (htU n hn30)
          have fU : nkFd (D, nkKds, Γ) s.heap bU n (.int xU) := exU ▸ el hR6.2.2.2.2.2.2 kU hzU n hn30
          -- the rest: the place is looked at
          have rest : (xU.toInt < 0 ∨ kk.toInt < xU.toInt) → ∀ (q : Nat) (ρ7 : Nat → Value) (H7 : Heap) (l7 : List Loc) (ls7 : Array Slot) (st7 : List Value), q < 13 → nkFd (D, nkKds, Γ) s.heap bS n (.int (nI q)) → (∀ i, i < 11 → ρ7 i = ρ2 i) → ρ7 11 = .int (nI n) → nkR (D, nkKds, Γ) y.2.2.1 [] s.heap (nkd0_X68 v q) ρ7 H7 l7 ls7 st7 → W p l e R s m args below meth c H7 l7 0 0 (MQ below (nkQg (D, nkKds, Γ) [] [nkd0_F v] 3 ρ (fun H _ r _ _ => ∀ (a : Nat) (k : Int32), ρ 0 = .ref a → ρ 2 = .int k → (r = some (.int 1) ↔ nkDF (D, nkKds, Γ) H a v k) ∧ (r = some (.int 1) ∨ r = some (.int 0)))) args s 0 0 (nkA (D, nkKds, Γ))) (F0 m 68 ls7 st7) := by
            intro hU q ρ7 H7 l7 ls7 st7 hq fS y7 e11 hR7
            have no : ∀ {xA xP xI : Int32}, nkFd (D, nkKds, Γ) s.heap bA (13 * v + q) (.int xA) → nkFd (D, nkKds, Γ) s.heap bP n (.int xP) → nkFd (D, nkKds, Γ) s.heap bI n (.int xI) → ¬ ((xA = xP ∧ xI = 1) ∨ (xA ≠ xP ∧ xI = 0)) → ¬ nkDF (D, nkKds, Γ) s.heap a0 v kk := fun {xA xP xI} fA fP fI hno hdf => by
              obtain ⟨c1, cT, cU, cA, cS, cP, cI, cn, hca, -, hcl⟩ := hdf
              obtain ⟨i1, i2, i3, i4, i5, i6, i7, i8⟩ := hca
              obtain ⟨j1, j2, j3, j4, j5, j6, j7, j8⟩ := hDF
              cases i2.fn j2
              cases i3.fn j3
              cases i4.fn j4
              cases i5.fn j5
              cases i6.fn j6
              cases i7.fn j7
              have ecn : n < cn := by
                have h5 := Value.int.inj (i8.fn j8)
                by_cases hcn : cn < 2 ^ 31
                · have h6 := congrArg Int32.toInt h5
                  rw [nI_toInt hcn, nI_toInt (by omega)] at h6
                  omega
                · omega
              rcases hcl n ecn with ⟨x, q1, q2⟩ | ⟨x, q1, q2, q3⟩ | ⟨qq, x, xp, hqq, q1, q2, q3, q4⟩
              · cases q1.fn fT
                omega
              · cases q1.fn fU
                omega
              · have hq1 := Value.int.inj (q1.fn fS)
                have hqe : qq = q := by
                  have h6 := congrArg Int32.toInt hq1
                  rw [nI_toInt (by omega), nI_toInt (by omega)] at h6
                  omega
                subst hqe
                cases q2.fn fA
                cases q3.fn fP
                rcases q4 with ⟨r1, r2⟩ | ⟨r1, r2⟩
                · cases r2.fn fI
                  exact hno (Or.inl ⟨r1, rfl⟩)
                · cases r2.fn fI
                  exact hno (Or.inr ⟨r1, rfl⟩)
            obtain ⟨zA, hzA, htA⟩ := nk_cel1 (E := (D, nkKds, Γ)) hR7.1.2.2.2.2.1 kA
            obtain ⟨xA, exA, xA1, xA2⟩ := nk_int (htA (13 * v + q) (by omega))
            have fA : nkFd (D, nkKds, Γ) s.heap bA (13 * v + q) (.int xA) := exA ▸ el hR7.2.2.2.2.2.2 kA hzA (13 * v + q) (by omega)
            obtain ⟨pA, hpA, epA, fpA⟩ := nh_nI (x := xA) (by omega)
            have e12 : ρ7 12 = .int (nI (13 * v + q)) := by
              obtain ⟨r, er, r1, r2⟩ := nk_int (hR7.1.1 12 _ rfl)
              rw [er, nk_nI (x := r) (m := 13 * v + q) (by omega)]
            have hR7g := (nk_ent_ok (nkd0_eg v q hv36 hq) hR7).1
            have py7 : ∀ i, i < 13 → nk_pk (13, nk_idl 13) ρ7 i = ρ7 i := fun i hi => nk_pk_at (nk_idl_g hi)
            refine nk_hLd hh (show nk_dk (nk_nD nhDa 277 []) 68 = some (.iaload, 1) by decide +kernel) (S := nkd0_X68g) (x := 12) (o := 6) (rest := []) rfl hR7g ((py7 6 (by decide)).trans ((y7 6 (by decide)).trans h6)) hzA ((py7 12 (by decide)).trans e12) (by omega) (by decide) exA (v := (0, 18446744073709551616, 18446744073709551651)) (nk_okI (by omega) (by omega)) (fun st8 hR8 => ?_)
            refine nk_segH (nk_nil _) nkd0_h rfl hh hR8 (fun ce hce ρ8 H8 l8 ls8 st8' hX8 hR8' hF8 => ?_) (fun a ha => by cases ha)
            obtain rfl := List.mem_singleton.mp hce
            have hR8' : nkR (D, nkKds, Γ) y.2.2.1 [] s.heap nkd0_X74 ρ8 H8 l8 ls8 st8' := hR8'
            show W p l e R s m args below meth c H8 l8 0 0 _ (F0 m 74 ls8 st8')
            have y8 : ∀ i, i < 12 → ρ8 i = ρ7 i := fun i hi => (hX8 i (by omega)).trans ((nkX.push 13 _ _ i (by omega)).trans (py7 i (by omega)))
            have y8' : ∀ i, i < 11 → ρ8 i = ρ2 i := fun i hi => (y8 i (by omega)).trans (y7 i hi)
            have f11 : ρ8 11 = .int (nI n) := (y8 11 (by decide)).trans e11
            have f13 : ρ8 13 = .int xA := (hX8 13 (by decide)).trans (nk_upd 13 _ _)
            have hR9 := nk_set_ok (i := 13) (v := (0, 18446744073709551616 + pA, 18446744073709551616 + pA)) hR8' (by rw [f13]; exact nk_okI (by omega) (by omega))
            obtain ⟨zP, hzP, htP⟩ := nk_cel1 (E := (D, nkKds, Γ)) hR8'.1.2.2.2.2.1 kP
            obtain ⟨xP, exP, xP1, xP2⟩ := nk_int (htP n hn30)
            have fP : nkFd (D, nkKds, Γ) s.heap bP n (.int xP) := exP ▸ el hR8'.2.2.2.2.2.2 kP hzP n hn30
            have hp36 : pA < 36 := by omega
            -- behind the comparison
            have fin0 : ∀ (ρa : Nat → Value) (Ha : Heap) (la : List Loc) (lsa : Array Slot) (sta : List Value), xA ≠ xP → (∀ i, i < 11 → ρa i = ρ2 i) → ρa 11 = .int (nI n) → nkR (D, nkKds, Γ) y.2.2.1 [] s.heap nkd0_X920 ρa Ha la lsa sta → W p l e R s m args below meth c Ha la 0 0 (MQ below (nkQg (D, nkKds, Γ) [] [nkd0_F v] 3 ρ (fun H _ r _ _ => ∀ (a : Nat) (k : Int32), ρ 0 = .ref a → ρ 2 = .int k → (r = some (.int 1) ↔ nkDF (D, nkKds, Γ) H a v k) ∧ (r = some (.int 1) ∨ r = some (.int 0)))) args s 0 0 (nkA (D, nkKds, Γ))) (F0 m 92 lsa sta) := by
              intro ρa Ha la lsa sta hne ya a11 hRa
              have hRa : nkR (D, nkKds, Γ) y.2.2.1 [] s.heap nkd0_X920 ρa Ha la lsa sta := hRa
              obtain ⟨zI, hzI, htI⟩ := nk_cel1 (E := (D, nkKds, Γ)) hRa.1.2.2.2.2.1 kI
              obtain ⟨xI, exI, xI1, xI2⟩ := nk_int (htI n hn30)
              have fI : nkFd (D, nkKds, Γ) s.heap bI n (.int xI) := exI ▸ el hRa.2.2.2.2.2.2 kI hzI n hn30
              have bad : ∀ (tv : nkV), nk_sgM nkKds [] nkd0_sp 277 0 0 [] [] 12 [nkd0_R2] 300 (nk_push nkd0_X920 [12] tv) 93 = true → nkOk Γ tv (.int xI) → xI ≠ 0 → W p l e R s m args below meth c Ha la 0 0 (MQ below (nkQg (D, nkKds, Γ) [] [nkd0_F v] 3 ρ (fun H _ r _ _ => ∀ (a : Nat) (k : Int32), ρ 0 = .ref a → ρ 2 = .int k → (r = some (.int 1) ↔ nkDF (D, nkKds, Γ) H a v k) ∧ (r = some (.int 1) ∨ r = some (.int 0)))) args s 0 0 (nkA (D, nkKds, Γ))) (F0 m 92 lsa sta) := fun tv hseg hok hne2 => by
                refine nk_hLd hh (show nk_dk (nk_nD nhDa 277 []) 92 = some (.iaload, 1) by decide +kernel) (S := nkd0_X920) (x := 11) (o := 9) (rest := [12]) rfl hRa ((ya 9 (by decide)).trans h9) hzI a11 hn30 (by decide) exI (v := tv) hok (fun stb hRb => ?_)
                refine nk_segH (nk_nil _) hseg rfl hh hRb (fun ce hce => by cases hce) (fun a ha ρc Hc r t hXc hTc hFc hFd hv ht => ?_)
                obtain rfl := List.mem_singleton.mp ha
                have hr1 : r = some (.int (cond false 1 0)) := by
                  obtain ⟨x, ex, x1, x2⟩ := nk_int (hTc.1 12 _ rfl)
                  rw [hv.2, ex]
                  have : x = 0 := by rw [nk_nI (x := x) (m := 0) (by omega)]; rfl
                  rw [this]
                  rfl
                have yc : ∀ i, i < 3 → ρc i = ρ i := fun i hi => (hXc i (by omega)).trans ((nkX.push 13 ρa _ i (by omega)).trans ((ya i (by omega)).trans (hX2 i hi)))
                have hTs : nkT (D, nkKds, Γ) (nk_set nkd0_R2 1 (0, 18446744073709551616 + v, 18446744073709551616 + v)) ρc Hc := ⟨fun i w hi => (nk_g_u hi).elim (fun q => by rw [q.1, q.2, yc 1 (by decide), e1]; exact nk_okI (by rw [nI_toInt (by omega)]; omega) (by rw [nI_toInt (by omega)]; omega)) (fun q => hTc.1 i w q), hTc.2⟩
                exact ret _ 0 _ false ρc Hc r t (nkd0_r2 v hv36) (nkd0_s2 v hv36) yc hTs hFd hv ht hr1 ⟨fun q => (by cases q), fun hdf => absurd hdf (no fA fP fI (by
                  rintro (⟨q1, q2⟩ | ⟨q1, q2⟩)
                  · exact hne q1
                  · exact hne2 q2))⟩
              by_cases cI : xI.toInt = 0
              · refine nk_hLd hh (show nk_dk (nk_nD nhDa 277 []) 92 = some (.iaload, 1) by decide +kernel) (S := nkd0_X920) (x := 11) (o := 9) (rest := [12]) rfl hRa ((ya 9 (by decide)).trans h9) hzI a11 hn30 (by decide) exI (v := (0, 18446744073709551616, 18446744073709551616)) (nk_okI (by omega) (by omega)) (fun stb hRb => ?_)
                refine nk_segH (nk_nil _) nkd0_j0e rfl hh hRb (fun ce hce ρc Hc lc lsc stc hXc hRc hFc => ?_) (fun a ha => by cases ha)
                obtain rfl := List.mem_singleton.mp hce
                have yc : ∀ i, i < 12 → ρc i = ρa i := fun i hi => (hXc i hi).trans (nkX.push 13 ρa _ i (by omega))
                have hxI : xI = 0 := by rw [nk_nI (x := xI) (m := 0) (by omega)]; rfl
                rw [hxI] at fI
                exact next ρc Hc lc lsc stc (fun i hi => (yc i (by omega)).trans (ya i hi)) ((yc 11 (by decide)).trans a11) hRc (Or.inr (Or.inr ⟨q, xA, xP, by omega, fS, fA, fP, Or.inr ⟨hne, fI⟩⟩))
              · have hxI : xI ≠ 0 := fun q => cI (by rw [q]; rfl)
                by_cases cI2 : xI.toInt < 0
                · exact bad (0, 18446744071562067968, 18446744073709551615) nkd0_j0l (nk_okI (by have := fb_rng xI; omega) (by omega)) hxI
                · exact bad (0, 18446744073709551617, 18446744075857035263) nkd0_j0g (nk_okI (by omega) (by have := fb_rng xI; omega)) hxI
            have fin1 : ∀ (ρa : Nat → Value) (Ha : Heap) (la : List Loc) (lsa : Array Slot) (sta : List Value), xA = xP → (∀ i, i < 11 → ρa i = ρ2 i) → ρa 11 = .int (nI n) → nkR (D, nkKds, Γ) y.2.2.1 [] s.heap nkd0_X921 ρa Ha la lsa sta → W p l e R s m args below meth c Ha la 0 0 (MQ below (nkQg (D, nkKds, Γ) [] [nkd0_F v] 3 ρ (fun H _ r _ _ => ∀ (a : Nat) (k : Int32), ρ 0 = .ref a → ρ 2 = .int k → (r = some (.int 1) ↔ nkDF (D, nkKds, Γ) H a v k) ∧ (r = some (.int 1) ∨ r = some (.int 0)))) args s 0 0 (nkA (D, nkKds, Γ))) (F0 m 92 lsa sta) := by
              intro ρa Ha la lsa sta hne ya a11 hRa
              have hRa : nkR (D, nkKds, Γ) y.2.2.1 [] s.heap nkd0_X921 ρa Ha la lsa sta := hRa
              obtain ⟨zI, hzI, htI⟩ := nk_cel1 (E := (D, nkKds, Γ)) hRa.1.2.2.2.2.1 kI
              obtain ⟨xI, exI, xI1, xI2⟩ := nk_int (htI n hn30)
              have fI : nkFd (D, nkKds, Γ) s.heap bI n (.int xI) := exI ▸ el hRa.2.2.2.2.2.2 kI hzI n hn30
              have bad : ∀ (tv : nkV), nk_sgM nkKds [] nkd0_sp 277 0 0 [] [] 12 [nkd0_R2] 300 (nk_push nkd0_X921 [12] tv) 93 = true → nkOk Γ tv (.int xI) → xI ≠ 1 → W p l e R s m args below meth c Ha la 0 0 (MQ below (nkQg (D, nkKds, Γ) [] [nkd0_F v] 3 ρ (fun H _ r _ _ => ∀ (a : Nat) (k : Int32), ρ 0 = .ref a → ρ 2 = .int k → (r = some (.int 1) ↔ nkDF (D, nkKds, Γ) H a v k) ∧ (r = some (.int 1) ∨ r = some (.int 0)))) args s 0 0 (nkA (D, nkKds, Γ))) (F0 m 92 lsa sta) := fun tv hseg hok hne2 => by
                refine nk_hLd hh (show nk_dk (nk_nD nhDa 277 []) 92 = some (.iaload, 1) by decide +kernel) (S := nkd0_X921) (x := 11) (o := 9) (rest := [12]) rfl hRa ((ya 9 (by decide)).trans h9) hzI a11 hn30 (by decide) exI (v := tv) hok (fun stb hRb => ?_)
                refine nk_segH (nk_nil _) hseg rfl hh hRb (fun ce hce => by cases hce) (fun a ha ρc Hc r t hXc hTc hFc hFd hv ht => ?_)
                obtain rfl := List.mem_singleton.mp ha
                have hr1 : r = some (.int (cond false 1 0)) := by
                  obtain ⟨x, ex, x1, x2⟩ := nk_int (hTc.1 12 _ rfl)
                  rw [hv.2, ex]
                  have : x = 0 := by rw [nk_nI (x := x) (m := 0) (by omega)]; rfl
                  rw [this]
                  rfl
                have yc : ∀ i, i < 3 → ρc i = ρ i := fun i hi => (hXc i (by omega)).trans ((nkX.push 13 ρa _ i (by omega)).trans ((ya i (by omega)).trans (hX2 i hi)))
                have hTs : nkT (D, nkKds, Γ) (nk_set nkd0_R2 1 (0, 18446744073709551616 + v, 18446744073709551616 + v)) ρc Hc := ⟨fun i w hi => (nk_g_u hi).elim (fun q => by rw [q.1, q.2, yc 1 (by decide), e1]; exact nk_okI (by rw [nI_toInt (by omega)]; omega) (by rw [nI_toInt (by omega)]; omega)) (fun q => hTc.1 i w q), hTc.2⟩
                exact ret _ 0 _ false ρc Hc r t (nkd0_r2 v hv36) (nkd0_s2 v hv36) yc hTs hFd hv ht hr1 ⟨fun q => (by cases q), fun hdf => absurd hdf (no fA fP fI (by
                  rintro (⟨q1, q2⟩ | ⟨q1, q2⟩)
                  · exact hne2 q2
                  · exact q1 hne))⟩
              by_cases cI : xI.toInt = 1
              · refine nk_hLd hh (show nk_dk (nk_nD nhDa 277 []) 92 = some (.iaload, 1) by decide +kernel) (S := nkd0_X921) (x := 11) (o := 9) (rest := [12]) rfl hRa ((ya 9 (by decide)).trans h9) hzI a11 hn30 (by decide) exI (v := (0, 18446744073709551617, 18446744073709551617)) (nk_okI (by omega) (by omega)) (fun stb hRb => ?_)
                refine nk_segH (nk_nil _) nkd0_j1e rfl hh hRb (fun ce hce ρc Hc lc lsc stc hXc hRc hFc => ?_) (fun a ha => by cases ha)
                obtain rfl := List.mem_singleton.mp hce
                have yc : ∀ i, i < 12 → ρc i = ρa i := fun i hi => (hXc i hi).trans (nkX.push 13 ρa _ i (by omega))
                have hxI : xI = 1 := by rw [nk_nI (x := xI) (m := 1) (by omega)]; rfl
                rw [hxI] at fI
                exact next ρc Hc lc lsc stc (fun i hi => (yc i (by omega)).trans (ya i hi)) ((yc 11 (by decide)).trans a11) hRc (Or.inr (Or.inr ⟨q, xA, xP, by omega, fS, fA, fP, Or.inl ⟨hne, fI⟩⟩))
              · have hxI : xI ≠ 1 := fun q => cI (by rw [q]; rfl)
                by_cases cI2 : xI.toInt < 1
                · exact bad (0, 18446744071562067968, 18446744073709551616) nkd0_j1l (nk_okI (by have := fb_rng xI; omega) (by omega)) hxI
                · exact bad (0, 18446744073709551618, 18446744075857035263) nkd0_j1g (nk_okI (by omega) (by have := fb_rng xI; omega)) hxI
            have go : ∀ (tv : nkV) (c92 : Nat) (P92 : nkS), nk_sgM nkKds [] nkd0_sp 277 0 0 [] [(92, P92, [])] 12 [] 300 (nk_push (nk_set nkd0_X74 13 (0, 18446744073709551616 + pA, 18446744073709551616 + pA)) [13] tv) 75 = true → nkOk Γ tv (.int xP) → (∀ (ρa : Nat → Value) (Ha : Heap) (la : List Loc) (lsa : Array Slot) (sta : List Value), (∀ i, i < 11 → ρa i = ρ2 i) → ρa 11 = .int (nI n) → nkR (D, nkKds, Γ) y.2.2.1 [] s.heap P92 ρa Ha la lsa sta → W p l e R s m args below meth c Ha la 0 0 (MQ below (nkQg (D, nkKds, Γ) [] [nkd0_F v] 3 ρ (fun H _ r _ _ => ∀ (a : Nat) (k : Int32), ρ 0 = .ref a → ρ 2 = .int k → (r = some (.int 1) ↔ nkDF (D, nkKds, Γ) H a v k) ∧ (r = some (.int 1) ∨ r = some (.int 0)))) args s 0 0 (nkA (D, nkKds, Γ))) (F0 m 92 lsa sta)) → W p l e R s m args below meth c H8 l8 0 0 (MQ below (nkQg (D, nkKds, Γ) [] [nkd0_F v] 3 ρ (fun H _ r _ _ => ∀ (a : Nat) (k : Int32), ρ 0 = .ref a → ρ 2 = .int k → (r = some (.int 1) ↔ nkDF (D, nkKds, Γ) H a v k) ∧ (r = some (.int 1) ∨ r = some (.int 0)))) args s 0 0 (nkA (D, nkKds, Γ))) (F0 m 74 ls8 st8') := fun tv c92 P92 hseg hok kk2 => by
              refine nk_hLd hh (show nk_dk (nk_nD nhDa 277 []) 74 = some (.iaload, 1) by decide +kernel) (S := nk_set nkd0_X74 13 (0, 18446744073709551616 + pA, 18446744073709551616 + pA)) (x := 11) (o := 8) (rest := [13]) rfl hR9 ((y8' 8 (by decide)).trans h8) hzP f11 hn30 (by decide) exP (v := tv) hok (fun st10 hR10 => ?_)
              refine nk_segH (nk_nil _) hseg rfl hh hR10 (fun ce hce ρa Ha la lsa sta hXa hRa hFa => ?_) (fun a ha => by cases ha)
              obtain rfl := List.mem_singleton.mp hce
              have ya : ∀ i, i < 12 → ρa i = ρ8 i := fun i hi => (hXa i hi).trans (nkX.push 14 _ _ i (by omega))
              exact kk2 ρa Ha la lsa sta (fun i hi => (ya i (by omega)).trans (y8' i hi)) ((ya 11 (by decide)).trans f11) hRa
            by_cases c1 : xP.toInt = xA.toInt
            · have hxe : xA = xP := by rw [epA, nk_nI (x := xP) (m := pA) (by omega)]
              exact go (0, 18446744073709551616 + pA, 18446744073709551616 + pA) 1 nkd0_X921 (nkd0_ie pA hp36) (nk_okI (by omega) (by omega)) (fun ρa Ha la lsa sta ya a11 hRa => fin1 ρa Ha la lsa sta hxe ya a11 hRa)
            · have hxn : xA ≠ xP := fun q => c1 (by rw [q])
              by_cases c2 : xP.toInt < xA.toInt
              · exact go (0, 18446744071562067968, 18446744073709551615 + pA) 0 nkd0_X920 (nkd0_il pA hp36) (nk_okI (by omega) (by omega)) (fun ρa Ha la lsa sta ya a11 hRa => fin0 ρa Ha la lsa sta hxn ya a11 hRa)
              · exact go (0, 18446744073709551616 + 1 + pA, 18446744075857035263) 0 nkd0_X920 (nkd0_ig pA hp36) (nk_okI (by omega) (by omega)) (fun ρa Ha la lsa sta ya a11 hRa => fin0 ρa Ha la lsa sta hxn ya a11 hRa)
          by_cases cU : xU.toInt < 0
          · refine nk_hLd hh (show nk_dk (nk_nD nhDa 277 []) 36 = some (.iaload, 1) by decide +kernel) (S := nkd0_X36 v) (x := 11) (o := 5) (rest := []) rfl hR6 ((y6' 5 (by decide)).trans h5) hzU d11 hn30 (by decide) exU (v := (0, 18446744071562067968, 18446744073709551615)) (nk_okI (by have := fb_rng xU; omega) (by omega)) (fun st7 hR7 => ?_)
            refine nk_segH (nk_nil _) (nkd0_e1 v hv36) rfl hh hR7 (fun ce hce ρ8 H8 l8 ls8 st8 hX8 hR8 hF8 => ?_) (fun a ha => by cases ha)
            obtain rfl := List.mem_singleton.mp hce
            have hR8 : nkR (D, nkKds, Γ) y.2.2.1 [] s.heap (nkd0_X66 v) ρ8 H8 l8 ls8 st8 := hR8
            show W p l e R s m args below meth c H8 l8 0 0 _ (F0 m 66 ls8 st8)
            have y8 : ∀ i, i < 12 → ρ8 i = ρ6 i := fun i hi => (hX8 i hi).trans (nkX.push 13 _ _ i (by omega))
            obtain ⟨zS, hzS, htS⟩ := nk_cel1 (E := (D, nkKds, Γ)) hR8.1.2.2.2.2.1 kS
            obtain ⟨xS, exS, xS1, xS2⟩ := nk_int (htS n hn30)
            obtain ⟨q, hq, eq, fq⟩ := nh_nI (x := xS) (by omega)
            rw [eq] at exS
            have fS : nkFd (D, nkKds, Γ) s.heap bS n (.int (nI q)) := exS ▸ el hR8.2.2.2.2.2.2 kS hzS n hn30
            have hq13 : q < 13 := by omega
            refine nk_hLd hh (show nk_dk (nk_nD nhDa 277 []) 66 = some (.iaload, 1) by decide +kernel) (S := nkd0_X66 v) (x := 11) (o := 7) (rest := [12, 6]) rfl hR8 ((y8 7 (by decide)).trans ((y6' 7 (by decide)).trans h7)) hzS ((y8 11 (by decide)).trans d11) hn30 (by decide) exS (v := (0, 18446744073709551616 + q, 18446744073709551616 + q)) (nk_okI (by rw [nI_toInt hq]; omega) (by rw [nI_toInt hq]; omega)) (fun st9 hR9 => ?_)
            refine nk_segH (nk_nil _) (nkd0_g1 v hv36 q hq13) rfl hh hR9 (fun ce hce ρa Ha la lsa sta hXa hRa hFa => ?_) (fun a ha => by cases ha)
            obtain rfl := List.mem_singleton.mp hce
            have ya : ∀ i, i < 12 → ρa i = ρ8 i := fun i hi => (hXa i hi).trans (nkX.push 13 _ _ i (by omega))
            exact rest (Or.inl cU) q ρa Ha la lsa sta hq13 fS (fun i hi => (ya i (by omega)).trans ((y8 i (by omega)).trans (y6' i hi))) ((ya 11 (by decide)).trans ((y8 11 (by decide)).trans d11)) hRa
          · refine nk_hLd hh (show nk_dk (nk_nD nhDa 277 []) 36 = some (.iaload, 1) by decide +kernel) (S := nkd0_X36 v) (x := 11) (o := 5) (rest := []) rfl hR6 ((y6' 5 (by decide)).trans h5) hzU d11 hn30 (by decide) exU (v := (0, 18446744073709551616, 18446744075857035263)) (nk_okI (by omega) (by have := fb_rng xU; omega)) (fun st7 hR7 => ?_)
            refine nk_segH (nk_nil _) (nkd0_e2 v hv36) rfl hh hR7 (fun ce hce ρ8 H8 l8 ls8 st8 hX8 hR8 hF8 => ?_) (fun a ha => by cases ha)
            obtain rfl := List.mem_singleton.mp hce
            have hR8 : nkR (D, nkKds, Γ) y.2.2.1 [] s.heap (nkd0_X45 v) ρ8 H8 l8 ls8 st8 := hR8
            show W p l e R s m args below meth c H8 l8 0 0 _ (F0 m 45 ls8 st8)
            have y8 : ∀ i, i < 12 → ρ8 i = ρ6 i := fun i hi => (hX8 i hi).trans (nkX.push 13 _ _ i (by omega))
            have y8' : ∀ i, i < 11 → ρ8 i = ρ2 i := fun i hi => (y8 i (by omega)).trans (y6' i hi)
            have g11 : ρ8 11 = .int (nI n) := (y8 11 (by decide)).trans d11
            obtain ⟨zV, hzV, -⟩ := nk_cel1 (E := (D, nkKds, Γ)) hR8.1.2.2.2.2.1 kU
            have exV : zV n = .int xU := (el hR8.2.2.2.2.2.2 kU hzV n hn30).fn fU
            refine nk_hLd hh (show nk_dk (nk_nD nhDa 277 []) 45 = some (.iaload, 1) by decide +kernel) (S := nkd0_X45 v) (x := 11) (o := 5) (rest := []) rfl hR8 ((y8' 5 (by decide)).trans h5) hzV g11 hn30 (by decide) exV (v := (0, 18446744073709551616, 18446744075857035263)) (nk_okI (by omega) (by have := fb_rng xU; omega)) (fun st9 hR9 => ?_)
            refine nk_segH (nk_nil _) (nkd0_f v hv36) rfl hh hR9 (fun ce hce ρa Ha la lsa sta hXa hRa hFa => ?_) (fun a ha => by cases ha)
            have ya : ∀ i, i < 12 → ρa i = ρ8 i := fun i hi => (hXa i (by omega)).trans (nkX.push 12 _ _ i hi)
            have ya' : ∀ i, i < 11 → ρa i = ρ2 i := fun i hi => (ya i (by omega)).trans (y8' i hi)
            have a11 : ρa 11 = .int (nI n) := (ya 11 (by decide)).trans g11
            have a12 : ρa 12 = .int xU := (hXa 12 (by decide)).trans (nk_upd 12 _ _)
            rcases List.mem_cons.mp hce with rfl | hce
            · have hRa : nkR (D, nkKds, Γ) y.2.2.1 [] s.heap (nkd0_Y98b v) ρa Ha la lsa sta := hRa
              have q := nk_di2 hRa.1.2.2.1 (a := 12) (b := 2) (c := 18446744073709551616) List.mem_cons_self a12 ((ya' 2 (by decide)).trans g2)
              obtain ⟨hRb, hXb, -, -⟩ := nk_ent_ok (nkd0_eb v hv36) hRa
              exact next _ Ha la lsa sta (fun i hi => (hXb i (by omega)).trans (ya' i hi)) ((hXb 11 (by decide)).trans a11) hRb (Or.inr (Or.inl ⟨xU, fU, by omega, by omega⟩))
            · obtain rfl := List.mem_singleton.mp hce
              have hRa : nkR (D, nkKds, Γ) y.2.2.1 [] s.heap (nkd0_X66b v) ρa Ha la lsa sta := hRa
              show W p l e R s m args below meth c Ha la 0 0 _ (F0 m 66 lsa sta)
              have q0 := nk_di2 hRa.1.2.2.1 (a := 2) (b := 12) (c := 18446744073709551615) List.mem_cons_self ((ya' 2 (by decide)).trans g2) a12
              obtain ⟨zS, hzS, htS⟩ := nk_cel1 (E := (D, nkKds, Γ)) hRa.1.2.2.2.2.1 kS
              obtain ⟨xS, exS, xS1, xS2⟩ := nk_int (htS n hn30)
              obtain ⟨q, hq, eq, fq⟩ := nh_nI (x := xS) (by omega)
              rw [eq] at exS
              have fS : nkFd (D, nkKds, Γ) s.heap bS n (.int (nI q)) := exS ▸ el hRa.2.2.2.2.2.2 kS hzS n hn30
              have hq13 : q < 13 := by omega
              refine nk_hLd hh (show nk_dk (nk_nD nhDa 277 []) 66 = some (.iaload, 1) by decide +kernel) (S := nkd0_X66b v) (x := 11) (o := 7) (rest := [13, 6]) rfl hRa ((ya' 7 (by decide)).trans h7) hzS a11 hn30 (by decide) exS (v := (0, 18446744073709551616 + q, 18446744073709551616 + q)) (nk_okI (by rw [nI_toInt hq]; omega) (by rw [nI_toInt hq]; omega)) (fun stb hRb => ?_)
              refine nk_segH (nk_nil _) (nkd0_g2 v hv36 q hq13) rfl hh hRb (fun ce hce ρc Hc lc lsc stc hXc hRc hFc => ?_) (fun a ha => by cases ha)
              obtain rfl := List.mem_singleton.mp hce
              have yc : ∀ i, i < 12 → ρc i = ρa i := fun i hi => (hXc i hi).trans (nkX.push 14 _ _ i (by omega))
              exact rest (Or.inr (by omega)) q ρc Hc lc lsc stc hq13 fS (fun i hi => (yc i (by omega)).trans (ya' i hi)) ((yc 11 (by decide)).trans a11) hRc
      · obtain rfl := List.mem_singleton.mp ha
        have q := nk_di2 hT4.2.2.1 (a := 10) (b := 11) (c := 18446744073709551616) List.mem_cons_self ((hX4 10 (by decide)).trans ((y3 10 (by decide)).trans h10)) ((hX4 11 (by decide)).trans b11)
        rw [nI_toInt (by omega), nI_toInt (by omega)] at q
        have hr1 : r = some (.int (cond true 1 0)) := by
          obtain ⟨x, ex, x1, x2⟩ := nk_int (hT4.1 12 _ rfl)
          rw [hv.2, ex]
          have : x = 1 := by rw [nk_nI (x := x) (m := 1) (by omega)]; rfl
          rw [this]
          rfl
        exact ret _ 0 _ true ρ4 H4 r t (nkd0_r1 v hv36) (nkd0_s1 v hv36) (fun i hi => (hX4 i (by omega)).trans ((y3 i (by omega)).trans (hX2 i hi))) hT4 hF5 hv ht hr1 ⟨fun _ => ⟨b1, bT, bU, bA, bS, bP, bI, sn, hDF, hx1, fun n' hn' => hall n' (by omega)⟩, fun _ => rfl⟩
  obtain ⟨z1, hz1, hzt1⟩ := nk_cel1 (E := (D, nkKds, Γ)) hR2.1.2.2.2.2.1 k1
  obtain ⟨x1, ex1, x11, x12⟩ := nk_int (hzt1 v hv36)
  have f1 : nkFd (D, nkKds, Γ) s.heap b1 v (.int x1) := ex1 ▸ el hR2.2.2.2.2.2.2 k1 hz1 v hv36
  have hvI : (nI v).toInt = (v : Int) := nI_toInt (by omega)
  have hvc : (nI v).toNatClampNeg = v := nI_clamp (by omega)
  have hld : ∀ tv : nkV, nkOk Γ tv (.int x1) → (∀ st', nkR (D, nkKds, Γ) y.2.2.1 [] s.heap (nk_push (nkd0_X5 v) [] tv) (updV ρ2 11 (.int x1)) H2 l2 ls2 st' → W p l e R s m args below meth c H2 l2 0 0 (MQ below (nkQg (D, nkKds, Γ) [] [nkd0_F v] 3 ρ (fun H _ r _ _ => ∀ (a : Nat) (k : Int32), ρ 0 = .ref a → ρ 2 = .int k → (r = some (.int 1) ↔ nkDF (D, nkKds, Γ) H a v k) ∧ (r = some (.int 1) ∨ r = some (.int 0)))) args s 0 0 (nkA (D, nkKds, Γ))) (F0 m 6 ls2 st')) → W p l e R s m args below meth c H2 l2 0 0 (MQ below (nkQg (D, nkKds, Γ) [] [nkd0_F v] 3 ρ (fun H _ r _ _ => ∀ (a : Nat) (k : Int32), ρ 0 = .ref a → ρ 2 = .int k → (r = some (.int 1) ↔ nkDF (D, nkKds, Γ) H a v k) ∧ (r = some (.int 1) ∨ r = some (.int 0)))) args s 0 0 (nkA (D, nkKds, Γ))) (F0 m 5 ls2 st2) := fun tv hok kk2 => by
    refine nk_hAld hh.2.1.1 (hh.2.1.2.2.1 5 (.baload, 1) (show nk_dk (nk_nD nhDa 277 []) 5 = some (.baload, 1) by decide +kernel)) (show (nkd0_X5 v).2.2.2.1 = 1 :: 3 :: [] from rfl) hR2 (ti := 3) (by decide) h3 hz1 g1 (by omega) (by omega) (v := tv) (by rw [hvc, ex1]; exact hok) (fun st' hR3 => ?_)
    rw [hvc, ex1] at hR3
    exact kk2 st' hR3
  by_cases c1 : x1.toInt = 0
  · refine hld (0, 18446744073709551616, 18446744073709551616) (nk_okI (by omega) (by omega)) (fun st3 hR3 => ?_)
    refine nk_segH (nk_nil _) (nkd0_b0 v hv36) rfl hh hR3 (fun ce hce => by cases hce) (fun a ha ρ4 H4 r t hX4 hT4 hF4 hF5 hv ht => ?_)
    obtain rfl := List.mem_singleton.mp ha
    have hr1 : r = some (.int (cond false 1 0)) := by
      obtain ⟨x, ex, x1, x2⟩ := nk_int (hT4.1 12 _ rfl)
      rw [hv.2, ex]
      have : x = 0 := by rw [nk_nI (x := x) (m := 0) (by omega)]; rfl
      rw [this]
      rfl
    refine ret _ 0 _ false ρ4 H4 r t (nkd0_r0 v hv36) (nkd0_s0 v hv36) (fun i hi => (hX4 i (by omega)).trans ((nkX.push 11 ρ2 _ i (by omega)).trans (hX2 i hi))) hT4 hF5 hv ht hr1 ⟨fun q => (by cases q), fun hdf => ?_⟩
    obtain ⟨d1, dT, dU, dA, dS, dP, dI, dn, hda, ⟨x, q1, q2⟩, -⟩ := hdf
    cases hda.1.fn hDF.1
    cases q1.fn f1
    exact absurd (show x1 = 0 by rw [nk_nI (x := x1) (m := 0) (by omega)]; rfl) q2
  · refine hld (0, 18446744073709551617, 18446744073709551617) (nk_okI (by omega) (by omega)) (fun st3 hR3 => ?_)
    refine nk_segH (nk_nil _) (nkd0_b1 v hv36) rfl hh hR3 (fun ce hce ρ4 H4 l4 ls4 st4 hX4 hR4 hF4 => ?_) (fun a ha => by cases ha)
    obtain rfl := List.mem_singleton.mp hce
    have hR4 : nkR (D, nkKds, Γ) y.2.2.1 [] s.heap (nkd0_L0 v) ρ4 H4 l4 ls4 st4 := hR4
    show W p l e R s m args below meth c H4 l4 0 0 _ (F0 m 13 ls4 st4)
    have v11 : ρ4 11 = .int (nI 0) := by
      obtain ⟨r, er, r1, r2⟩ := nk_int (hR4.1.1 11 _ rfl)
      rw [er, nk_nI (x := r) (m := 0) (by omega)]
    obtain ⟨hR5, hX5, -, -⟩ := nk_ent_ok (nkd0_e0 v hv36) hR4
    exact loop _ 0 _ H4 l4 ls4 st4 rfl (Nat.zero_le _) (fun i hi => (hX5 i hi).trans ((hX4 i hi).trans (nkX.push 11 ρ2 _ i hi))) v11 hR5 ⟨x1, f1, fun q => c1 (by rw [q]; rfl)⟩ (fun n' hn' => absurd hn' (by omega)))

def nkd1_sp : List (Nat × nkSp) := [(277, [(0, (2, 0), [59]), (0, (2, 0), [56]), (0, (2, 0), [57]), (0, (2, 0), [52]), (0, (2, 0), [53]), (0, (2, 0), [54]), (0, (2, 0), [55]), (0, (2, 0), [60])])]
def nkd1_F (v : Nat) : nkS := (4, [(0, 18446744073709551616, 18446744073709551617), (0, 18446744071562067968, 18446744075857035263), (0, 18446744073709551616 + v, 18446744073709551616 + v), (2, 41, 0)], [], [3], [], [], [])
def nkd1_en (v : Nat) : nkIn := (277, 0, 0, 3, (3, [(0, 18446744071562067968, 18446744075857035263), (0, 18446744073709551616 + v, 18446744073709551616 + v), (2, 41, 0)], [], [], [], [], []), [], [nkd1_F v])
def nkd1_X5 (v : Nat) : nkS := (11, [(0, 18446744073709551616, 18446744073709551646), (2, 73, 0), (2, 72, 0), (2, 71, 0), (2, 70, 0), (2, 75, 0), (2, 74, 0), (2, 77, 0), (0, 18446744071562067968, 18446744075857035263), (0, 18446744073709551616 + v, 18446744073709551616 + v), (2, 41, 0)], [(0, 0), (1, 1), (2, 2)], [1, 3], [(0, 59, 3), (0, 56, 4), (0, 57, 5), (0, 52, 6), (0, 53, 7), (0, 54, 8), (0, 55, 9), (0, 60, 10)], [], [])
theorem nkd1_a : ∀ v, v < 36 → nk_sgM nkKds [] nkd1_sp 277 0 0 [] [(5, nkd1_X5 v, [])] 3 [] 300 (3, [(0, 18446744071562067968, 18446744075857035263), (0, 18446744073709551616 + v, 18446744073709551616 + v), (2, 41, 0)], [(0, 0), (1, 1), (2, 2)], [], [], [], []) 0 = true := by decide +kernel
def nkd1_R0 (v : Nat) : nkS := (13, [(0, 18446744073709551616, 18446744073709551616), (0, 18446744073709551616, 18446744073709551616), (0, 18446744073709551616, 18446744073709551646), (2, 73, 0), (2, 72, 0), (2, 71, 0), (2, 70, 0), (2, 75, 0), (2, 74, 0), (2, 77, 0), (0, 18446744071562067968, 18446744075857035263), (0, 18446744073709551616 + v, 18446744073709551616 + v), (2, 41, 0)], [], [12], [], [], [])
theorem nkd1_b0 : ∀ v, v < 36 → nk_sgM nkKds [] nkd1_sp 277 0 0 [] [] 12 [nkd1_R0 v] 300 (nk_push (nkd1_X5 v) [] (0, 18446744073709551616, 18446744073709551616)) 6 = true := by decide +kernel
def nkd1_L (v : Nat) : nkS := (12, [(0, 18446744073709551616, 18446744073709551646), (0, 18446744073709551616, 18446744073709551646), (2, 73, 0), (2, 72, 0), (2, 71, 0), (2, 70, 0), (2, 75, 0), (2, 74, 0), (2, 77, 0), (0, 18446744071562067968, 18446744075857035263), (0, 18446744073709551616 + v, 18446744073709551616 + v), (2, 41, 0)], [(0, 0), (1, 1), (2, 2), (3, 11)], [], [(0, 59, 3), (0, 56, 4), (0, 57, 5), (0, 52, 6), (0, 53, 7), (0, 54, 8), (0, 55, 9), (0, 60, 10)], [], [])
def nkd1_L0 (v : Nat) : nkS := (12, [(0, 18446744073709551616, 18446744073709551616), (0, 18446744073709551616, 18446744073709551646), (2, 73, 0), (2, 72, 0), (2, 71, 0), (2, 70, 0), (2, 75, 0), (2, 74, 0), (2, 77, 0), (0, 18446744071562067968, 18446744075857035263), (0, 18446744073709551616 + v, 18446744073709551616 + v), (2, 41, 0)], [(0, 0), (1, 1), (2, 2), (3, 11)], [], [(0, 59, 3), (0, 56, 4), (0, 57, 5), (0, 52, 6), (0, 53, 7), (0, 54, 8), (0, 55, 9), (0, 60, 10)], [], [])
theorem nkd1_b1 : ∀ v, v < 36 → nk_sgM nkKds [] nkd1_sp 277 0 0 [] [(13, nkd1_L0 v, [])] 11 [] 300 (nk_push (nkd1_X5 v) [] (0, 18446744073709551617, 18446744073709551617)) 6 = true := by decide +kernel
def nkd1_R1 (v : Nat) : nkS := (13, [(0, 18446744073709551617, 18446744073709551617), (0, 18446744073709551616, 18446744073709551646), (0, 18446744073709551616, 18446744073709551646), (2, 73, 0), (2, 72, 0), (2, 71, 0), (2, 70, 0), (2, 75, 0), (2, 74, 0), (2, 77, 0), (0, 18446744071562067968, 18446744075857035263), (0, 18446744073709551616 + v, 18446744073709551616 + v), (2, 41, 0)], [], [12], [], [(10, 11, 18446744073709551616)], [])
def nkd1_X26 (v : Nat) : nkS := (12, [(0, 18446744073709551616, 18446744073709551645), (0, 18446744073709551616, 18446744073709551646), (2, 73, 0), (2, 72, 0), (2, 71, 0), (2, 70, 0), (2, 75, 0), (2, 74, 0), (2, 77, 0), (0, 18446744071562067968, 18446744075857035263), (0, 18446744073709551616 + v, 18446744073709551616 + v), (2, 41, 0)], [(0, 0), (1, 1), (2, 2), (3, 11)], [11, 4], [(0, 59, 3), (0, 56, 4), (0, 57, 5), (0, 52, 6), (0, 53, 7), (0, 54, 8), (0, 55, 9), (0, 60, 10)], [(11, 10, 18446744073709551615)], [])
theorem nkd1_c : ∀ v, v < 36 → nk_sgM nkKds [] nkd1_sp 277 0 0 [] [(26, nkd1_X26 v, [])] 12 [nkd1_R1 v] 300 (nkd1_L v) 13 = true := by decide +kernel
def nkd1_Y98a (v : Nat) : nkS := (13, [(0, 18446744071562067968, 18446744075857035263), (0, 18446744073709551616, 18446744073709551645), (0, 18446744073709551616, 18446744073709551646), (2, 73, 0), (2, 72, 0), (2, 71, 0), (2, 70, 0), (2, 75, 0), (2, 74, 0), (2, 77, 0), (0, 18446744071562067968, 18446744075857035263), (0, 18446744073709551616 + v, 18446744073709551616 + v), (2, 41, 0)], [(0, 0), (1, 1), (2, 2), (3, 11)], [], [(0, 59, 3), (0, 56, 4), (0, 57, 5), (0, 52, 6), (0, 53, 7), (0, 54, 8), (0, 55, 9), (0, 60, 10)], [(2, 12, 18446744073709551615)], [])
def nkd1_X36 (v : Nat) : nkS := (13, [(0, 18446744071562067968, 18446744075857035263), (0, 18446744073709551616, 18446744073709551645), (0, 18446744073709551616, 18446744073709551646), (2, 73, 0), (2, 72, 0), (2, 71, 0), (2, 70, 0), (2, 75, 0), (2, 74, 0), (2, 77, 0), (0, 18446744071562067968, 18446744075857035263), (0, 18446744073709551616 + v, 18446744073709551616 + v), (2, 41, 0)], [(0, 0), (1, 1), (2, 2), (3, 11)], [11, 5], [(0, 59, 3), (0, 56, 4), (0, 57, 5), (0, 52, 6), (0, 53, 7), (0, 54, 8), (0, 55, 9), (0, 60, 10)], [(12, 2, 18446744073709551616)], [])
theorem nkd1_d : ∀ v, v < 36 → nk_sgM nkKds [] nkd1_sp 277 0 0 [] [(98, nkd1_Y98a v, []), (36, nkd1_X36 v, [])] 13 [] 300 (nk_push (nkd1_X26 v) [] (0, 18446744071562067968, 18446744075857035263)) 27 = true := by decide +kernel
def nkd1_X66 (v : Nat) : nkS := (13, [(0, 18446744073709551616 + 13 * v, 18446744073709551616 + 13 * v), (0, 18446744073709551616, 18446744073709551645), (0, 18446744073709551616, 18446744073709551646), (2, 73, 0), (2, 72, 0), (2, 71, 0), (2, 70, 0), (2, 75, 0), (2, 74, 0), (2, 77, 0), (0, 18446744071562067968, 18446744075857035263), (0, 18446744073709551616 + v, 18446744073709551616 + v), (2, 41, 0)], [(0, 0), (1, 1), (2, 2), (3, 11)], [11, 7, 12, 6], [(0, 59, 3), (0, 56, 4), (0, 57, 5), (0, 52, 6), (0, 53, 7), (0, 54, 8), (0, 55, 9), (0, 60, 10)], [], [])
theorem nkd1_e1 : ∀ v, v < 36 → nk_sgM nkKds [] nkd1_sp 277 0 0 [] [(66, nkd1_X66 v, [])] 12 [] 300 (nk_push (nkd1_X36 v) [] (0, 18446744071562067968, 18446744073709551615)) 37 = true := by decide +kernel
def nkd1_X45 (v : Nat) : nkS := (12, [(0, 18446744073709551616, 18446744073709551645), (0, 18446744073709551616, 18446744073709551646), (2, 73, 0), (2, 72, 0), (2, 71, 0), (2, 70, 0), (2, 75, 0), (2, 74, 0), (2, 77, 0), (0, 18446744071562067968, 18446744075857035263), (0, 18446744073709551616 + v, 18446744073709551616 + v), (2, 41, 0)], [(0, 0), (1, 1), (2, 2), (3, 11)], [11, 5], [(0, 59, 3), (0, 56, 4), (0, 57, 5), (0, 52, 6), (0, 53, 7), (0, 54, 8), (0, 55, 9), (0, 60, 10)], [], [])
theorem nkd1_e2 : ∀ v, v < 36 → nk_sgM nkKds [] nkd1_sp 277 0 0 [] [(45, nkd1_X45 v, [])] 12 [] 300 (nk_push (nkd1_X36 v) [] (0, 18446744073709551616, 18446744075857035263)) 37 = true := by decide +kernel
def nkd1_Y98b (v : Nat) : nkS := (13, [(0, 18446744073709551616, 18446744075857035263), (0, 18446744073709551616, 18446744073709551645), (0, 18446744073709551616, 18446744073709551646), (2, 73, 0), (2, 72, 0), (2, 71, 0), (2, 70, 0), (2, 75, 0), (2, 74, 0), (2, 77, 0), (0, 18446744071562067968, 18446744075857035263), (0, 18446744073709551616 + v, 18446744073709551616 + v), (2, 41, 0)], [(0, 0), (1, 1), (2, 2), (3, 11)], [], [(0, 59, 3), (0, 56, 4), (0, 57, 5), (0, 52, 6), (0, 53, 7), (0, 54, 8), (0, 55, 9), (0, 60, 10)], [(12, 2, 18446744073709551616)], [])
def nkd1_X66b (v : Nat) : nkS := (14, [(0, 18446744073709551616 + 13 * v, 18446744073709551616 + 13 * v), (0, 18446744073709551616, 18446744075857035263), (0, 18446744073709551616, 18446744073709551645), (0, 18446744073709551616, 18446744073709551646), (2, 73, 0), (2, 72, 0), (2, 71, 0), (2, 70, 0), (2, 75, 0), (2, 74, 0), (2, 77, 0), (0, 18446744071562067968, 18446744075857035263), (0, 18446744073709551616 + v, 18446744073709551616 + v), (2, 41, 0)], [(0, 0), (1, 1), (2, 2), (3, 11)], [11, 7, 13, 6], [(0, 59, 3), (0, 56, 4), (0, 57, 5), (0, 52, 6), (0, 53, 7), (0, 54, 8), (0, 55, 9), (0, 60, 10)], [(2, 12, 18446744073709551615)], [])
theorem nkd1_f : ∀ v, v < 36 → nk_sgM nkKds [] nkd1_sp 277 0 0 [] [(98, nkd1_Y98b v, []), (66, nkd1_X66b v, [])] 13 [] 300 (nk_push (nkd1_X45 v) [] (0, 18446744073709551616, 18446744075857035263)) 46 = true := by decide +kernel
def nkd1_X68 (v q : Nat) : nkS := (13, [(0, 18446744073709551616 + 13 * v + q, 18446744073709551616 + 13 * v + q), (0, 18446744073709551616, 18446744073709551645), (0, 18446744073709551616, 18446744073709551646), (2, 73, 0), (2, 72, 0), (2, 71, 0), (2, 70, 0), (2, 75, 0), (2, 74, 0), (2, 77, 0), (0, 18446744071562067968, 18446744075857035263), (0, 18446744073709551616, 18446744073709551651), (2, 41, 0)], [(0, 0), (1, 1), (2, 2), (3, 11)], [12, 6], [(0, 59, 3), (0, 56, 4), (0, 57, 5), (0, 52, 6), (0, 53, 7), (0, 54, 8), (0, 55, 9), (0, 60, 10)], [], [])
theorem nkd1_g1 : ∀ v, v < 36 → ∀ q, q < 13 → nk_sgM nkKds [] nkd1_sp 277 0 0 [] [(68, nkd1_X68 v q, [])] 12 [] 300 (nk_push (nkd1_X66 v) [12, 6] (0, 18446744073709551616 + q, 18446744073709551616 + q)) 67 = true := by decide +kernel
theorem nkd1_g2 : ∀ v, v < 36 → ∀ q, q < 13 → nk_sgM nkKds [] nkd1_sp 277 0 0 [] [(68, nkd1_X68 v q, [])] 12 [] 300 (nk_push (nkd1_X66b v) [13, 6] (0, 18446744073709551616 + q, 18446744073709551616 + q)) 67 = true := by decide +kernel
def nkd1_X68g : nkS := (13, [(0, 18446744073709551616, 18446744073709552083), (0, 18446744073709551616, 18446744073709551645), (0, 18446744073709551616, 18446744073709551646), (2, 73, 0), (2, 72, 0), (2, 71, 0), (2, 70, 0), (2, 75, 0), (2, 74, 0), (2, 77, 0), (0, 18446744071562067968, 18446744075857035263), (0, 18446744073709551616, 18446744073709551651), (2, 41, 0)], [(0, 0), (1, 1), (2, 2), (3, 11)], [12, 6], [(0, 59, 3), (0, 56, 4), (0, 57, 5), (0, 52, 6), (0, 53, 7), (0, 54, 8), (0, 55, 9), (0, 60, 10)], [], [])
def nkd1_X74 : nkS := (14, [(0, 18446744073709551616, 18446744073709551651), (0, 18446744073709551616, 18446744073709552083), (0, 18446744073709551616, 18446744073709551645), (0, 18446744073709551616, 18446744073709551646), (2, 73, 0), (2, 72, 0), (2, 71, 0), (2, 70, 0), (2, 75, 0), (2, 74, 0), (2, 77, 0), (0, 18446744071562067968, 18446744075857035263), (0, 18446744073709551616, 18446744073709551651), (2, 41, 0)], [(0, 0), (1, 1), (2, 2), (3, 11)], [11, 8, 13], [(0, 59, 3), (0, 56, 4), (0, 57, 5), (0, 52, 6), (0, 53, 7), (0, 54, 8), (0, 55, 9), (0, 60, 10)], [], [])
theorem nkd1_h : nk_sgM nkKds [] nkd1_sp 277 0 0 [] [(74, nkd1_X74, [])] 14 [] 300 (nk_push nkd1_X68g [] (0, 18446744073709551616, 18446744073709551651)) 69 = true := by decide +kernel
def nkd1_X920 : nkS := (13, [(0, 18446744073709551616, 18446744073709551616), (0, 18446744073709551616, 18446744073709551645), (0, 18446744073709551616, 18446744073709551646), (2, 73, 0), (2, 72, 0), (2, 71, 0), (2, 70, 0), (2, 75, 0), (2, 74, 0), (2, 77, 0), (0, 18446744071562067968, 18446744075857035263), (0, 18446744073709551616, 18446744073709551651), (2, 41, 0)], [(0, 0), (1, 1), (2, 2), (3, 11), (4, 12)], [11, 9, 12], [(0, 59, 3), (0, 56, 4), (0, 57, 5), (0, 52, 6), (0, 53, 7), (0, 54, 8), (0, 55, 9), (0, 60, 10)], [], [])
def nkd1_X921 : nkS := (13, [(0, 18446744073709551617, 18446744073709551617), (0, 18446744073709551616, 18446744073709551645), (0, 18446744073709551616, 18446744073709551646), (2, 73, 0), (2, 72, 0), (2, 71, 0), (2, 70, 0), (2, 75, 0), (2, 74, 0), (2, 77, 0), (0, 18446744071562067968, 18446744075857035263), (0, 18446744073709551616, 18446744073709551651), (2, 41, 0)], [(0, 0), (1, 1), (2, 2), (3, 11), (4, 12)], [11, 9, 12], [(0, 59, 3), (0, 56, 4), (0, 57, 5), (0, 52, 6), (0, 53, 7), (0, 54, 8), (0, 55, 9), (0, 60, 10)], [], [])
theorem nkd1_ie : ∀ q, q < 36 → nk_sgM nkKds [] nkd1_sp 277 0 0 [] [(92, nkd1_X921, [])] 12 [] 300 (nk_push (nk_set nkd1_X74 13 (0, 18446744073709551616 + q, 18446744073709551616 + q)) [13] (0, 18446744073709551616 + q, 18446744073709551616 + q)) 75 = true := by decide +kernel
theorem nkd1_il : ∀ q, q < 36 → nk_sgM nkKds [] nkd1_sp 277 0 0 [] [(92, nkd1_X920, [])] 12 [] 300 (nk_push (nk_set nkd1_X74 13 (0, 18446744073709551616 + q, 18446744073709551616 + q)) [13] (0, 18446744071562067968, 18446744073709551615 + q)) 75 = true := by decide +kernel
theorem nkd1_ig : ∀ q, q < 36 → nk_sgM nkKds [] nkd1_sp 277 0 0 [] [(92, nkd1_X920, [])] 12 [] 300 (nk_push (nk_set nkd1_X74 13 (0, 18446744073709551616 + q, 18446744073709551616 + q)) [13] (0, 18446744073709551616 + 1 + q, 18446744075857035263)) 75 = true := by decide +kernel
def nkd1_Y98 : nkS := (12, [(0, 18446744073709551616, 18446744073709551645), (0, 18446744073709551616, 18446744073709551646), (2, 73, 0), (2, 72, 0), (2, 71, 0), (2, 70, 0), (2, 75, 0), (2, 74, 0), (2, 77, 0), (0, 18446744071562067968, 18446744075857035263), (0, 18446744073709551616, 18446744073709551651), (2, 41, 0)], [(0, 0), (1, 1), (2, 2), (3, 11)], [], [(0, 59, 3), (0, 56, 4), (0, 57, 5), (0, 52, 6), (0, 53, 7), (0, 54, 8), (0, 55, 9), (0, 60, 10)], [], [])
def nkd1_R2 : nkS := (13, [(0, 18446744073709551616, 18446744073709551616), (0, 18446744073709551616, 18446744073709551645), (0, 18446744073709551616, 18446744073709551646), (2, 73, 0), (2, 72, 0), (2, 71, 0), (2, 70, 0), (2, 75, 0), (2, 74, 0), (2, 77, 0), (0, 18446744071562067968, 18446744075857035263), (0, 18446744073709551616, 18446744073709551651), (2, 41, 0)], [], [12], [], [], [])
theorem nkd1_j0e : nk_sgM nkKds [] nkd1_sp 277 0 0 [] [(98, nkd1_Y98, [])] 12 [] 300 (nk_push nkd1_X920 [12] (0, 18446744073709551616, 18446744073709551616)) 93 = true := by decide +kernel
theorem nkd1_j0l : nk_sgM nkKds [] nkd1_sp 277 0 0 [] [] 12 [nkd1_R2] 300 (nk_push nkd1_X920 [12] (0, 18446744071562067968, 18446744073709551615)) 93 = true := by decide +kernel
theorem nkd1_j0g : nk_sgM nkKds [] nkd1_sp 277 0 0 [] [] 12 [nkd1_R2] 300 (nk_push nkd1_X920 [12] (0, 18446744073709551617, 18446744075857035263)) 93 = true := by decide +kernel
theorem nkd1_j1e : nk_sgM nkKds [] nkd1_sp 277 0 0 [] [(98, nkd1_Y98, [])] 12 [] 300 (nk_push nkd1_X921 [12] (0, 18446744073709551617, 18446744073709551617)) 93 = true := by decide +kernel
theorem nkd1_j1l : nk_sgM nkKds [] nkd1_sp 277 0 0 [] [] 12 [nkd1_R2] 300 (nk_push nkd1_X921 [12] (0, 18446744071562067968, 18446744073709551616)) 93 = true := by decide +kernel
theorem nkd1_j1g : nk_sgM nkKds [] nkd1_sp 277 0 0 [] [] 12 [nkd1_R2] 300 (nk_push nkd1_X921 [12] (0, 18446744073709551618, 18446744075857035263)) 93 = true := by decide +kernel
def nkd1_Ln : nkS := (13, [(0, 18446744073709551617, 18446744073709551646), (0, 18446744073709551616, 18446744073709551645), (0, 18446744073709551616, 18446744073709551646), (2, 73, 0), (2, 72, 0), (2, 71, 0), (2, 70, 0), (2, 75, 0), (2, 74, 0), (2, 77, 0), (0, 18446744071562067968, 18446744075857035263), (0, 18446744073709551616, 18446744073709551651), (2, 41, 0)], [(0, 0), (1, 1), (2, 2), (3, 12)], [], [(0, 59, 3), (0, 56, 4), (0, 57, 5), (0, 52, 6), (0, 53, 7), (0, 54, 8), (0, 55, 9), (0, 60, 10)], [(12, 11, 18446744073709551617), (11, 12, 18446744073709551615)], [])
theorem nkd1_k : nk_sgM nkKds [] nkd1_sp 277 0 0 [] [(13, nkd1_Ln, [])] 12 [] 300 nkd1_Y98 98 = true := by decide +kernel
theorem nkd1_eL : ∀ v, v < 36 → nk_ent 11 (nkd1_L v) (nk_set nkd1_Ln 1 (0, 18446744073709551616 + v, 18446744073709551616 + v)) = some (12, [12, 10, 9, 8, 7, 6, 5, 4, 3, 2, 1, 0]) := by decide +kernel
theorem nkd1_e0 : ∀ v, v < 36 → nk_ent 11 (nkd1_L v) (nkd1_L0 v) = some (12, [11, 10, 9, 8, 7, 6, 5, 4, 3, 2, 1, 0]) := by decide +kernel
theorem nkd1_ea : ∀ v, v < 36 → nk_ent 12 nkd1_Y98 (nkd1_Y98a v) = some (12, [11, 10, 9, 8, 7, 6, 5, 4, 3, 2, 1, 0]) := by decide +kernel
theorem nkd1_eb : ∀ v, v < 36 → nk_ent 12 nkd1_Y98 (nkd1_Y98b v) = some (12, [11, 10, 9, 8, 7, 6, 5, 4, 3, 2, 1, 0]) := by decide +kernel
theorem nkd1_eg : ∀ v q, v < 36 → q < 13 → nk_ent 13 nkd1_X68g (nkd1_X68 v q) = some (13, nk_idl 13) := fun v q h1 h2 => (by decide +kernel : ∀ v, v < 36 → ∀ q, q < 13 → nk_ent 13 nkd1_X68g (nkd1_X68 v q) = some (13, nk_idl 13)) v h1 q h2
theorem nkd1_r0 : ∀ v, v < 36 → nk_ent 3 (nkd1_F v) (nkd1_R0 v) = some (4, [12, 2, 1, 0]) := by decide +kernel
theorem nkd1_s0 : ∀ v, v < 36 → nk_stB (nkd1_R0 v) = true := by decide +kernel
theorem nkd1_r1 : ∀ v, v < 36 → nk_ent 3 (nkd1_F v) (nkd1_R1 v) = some (4, [12, 2, 1, 0]) := by decide +kernel
theorem nkd1_s1 : ∀ v, v < 36 → nk_stB (nkd1_R1 v) = true := by decide +kernel
theorem nkd1_r2 : ∀ v, v < 36 → nk_ent 3 (nkd1_F v) (nk_set nkd1_R2 1 (0, 18446744073709551616 + v, 18446744073709551616 + v)) = some (4, [12, 2, 1, 0]) := by decide +kernel
theorem nkd1_s2 : ∀ v, v < 36 → nk_stB (nk_set nkd1_R2 1 (0, 18446744073709551616 + v, 18446744073709551616 + v)) = true := by decide +kernel
theorem nkd1_hd : ∀ v, v < 36 → nk_hdB (nkd1_en v) = true := by decide +kernel
theorem nkd1_lo : ∀ v, v < 36 → nk_lo0 (nkd1_en v).2.2.2.2.1 0 (List.range 3) = some [(0, 0), (1, 1), (2, 2)] := by decide +kernel
theorem nkd1_fn : ∀ f x, (0, f, x) ∈ (nkd1_X5 0).2.2.2.2.1 → f < 64 := fun f x h => by
  have h : (0, f, x) ∈ [(0, 59, 3), (0, 56, 4), (0, 57, 5), (0, 52, 6), (0, 53, 7), (0, 54, 8), (0, 55, 9), (0, 60, 10)] := h
  simp only [List.mem_cons, Prod.mk.injEq, List.not_mem_nil, or_false] at h
  omega
theorem nkd1_df (v : Nat) (hv36 : v < 36) : nkMetG nkKds (nkd1_en v) (fun _ _ _ => True) (fun E ρ H _ r _ _ => ∀ (a : Nat) (k : Int32), ρ 0 = .ref a → ρ 2 = .int k → (r = some (.int 1) ↔ nkDF E H a v k) ∧ (r = some (.int 1) ∨ r = some (.int 0))) := nk_handG (spt := nkd1_sp) (nkd1_hd v hv36) (fun {y lo0} hlo0 {p l e R s m args below meth c cc D Γ ρ ls} hh _ hR => by
  have hl : lo0 = [(0, 0), (1, 1), (2, 2)] := Option.some.inj (hlo0.symm.trans (nkd1_lo v hv36))
  subst hl
  obtain ⟨a0, ea0, hΓ0⟩ := nk_rf (hR.1.1 0 _ rfl)
  obtain ⟨kk, ekk, -, -⟩ := nk_int (hR.1.1 2 _ rfl)
  have e1 : ρ 1 = .int (nI v) := by
    obtain ⟨r, er, r1, r2⟩ := nk_int (hR.1.1 1 _ rfl)
    rw [er, nk_nI (x := r) (m := v) (by omega)]
  refine nk_segH (nk_nil _) (nkd1_a v hv36) rfl hh hR (fun ce hce ρ2 H2 l2 ls2 st2 hX2 hR2 hF2 => ?_) (fun a ha => by cases ha)
  obtain rfl := List.mem_singleton.mp hce
  have hR2 : nkR (D, nkKds, Γ) y.2.2.1 [] s.heap (nkd1_X5 v) ρ2 H2 l2 ls2 st2 := hR2
  show W p l e R s m args below meth c H2 l2 0 0 _ (F0 m 5 ls2 st2)
  have g0 : ρ2 0 = .ref a0 := (hX2 0 (by decide)).trans ea0
  have g1 : ρ2 1 = .int (nI v) := (hX2 1 (by decide)).trans e1
  have g2 : ρ2 2 = .int kk := (hX2 2 (by decide)).trans ekk
  obtain ⟨b1, h3, hΓ1⟩ := nk_rf (hR2.1.1 3 _ rfl)
  obtain ⟨bT, h4, hΓT⟩ := nk_rf (hR2.1.1 4 _ rfl)
  obtain ⟨bU, h5, hΓU⟩ := nk_rf (hR2.1.1 5 _ rfl)
  obtain ⟨bA, h6, hΓA⟩ := nk_rf (hR2.1.1 6 _ rfl)
  obtain ⟨bS, h7, hΓS⟩ := nk_rf (hR2.1.1 7 _ rfl)
  obtain ⟨bP, h8, hΓP⟩ := nk_rf (hR2.1.1 8 _ rfl)
  obtain ⟨bI, h9, hΓI⟩ := nk_rf (hR2.1.1 9 _ rfl)
  obtain ⟨sx, h10, sx1, sx2⟩ := nk_int (hR2.1.1 10 _ rfl)
  obtain ⟨sn, hsn, esn, fsn⟩ := nh_nI (x := sx) (by omega)
  rw [esn] at h10
  have k1 : nkKds[Γ b1]? = some (1, 3, 36, 1, [(0, 18446744073709551616, 18446744073709551617)]) := by rw [show Γ b1 = 77 from hΓ1]; rfl
  have kT : nkKds[Γ bT]? = some (1, 0, 30, 1, [(0, 18446744071562067968, 18446744075857035263)]) := by rw [show Γ bT = 74 from hΓT]; rfl
  have kU : nkKds[Γ bU]? = some (1, 0, 30, 1, [(0, 18446744071562067968, 18446744075857035263)]) := by rw [show Γ bU = 75 from hΓU]; rfl
  have kA : nkKds[Γ bA]? = some (1, 0, 468, 1, [(0, 18446744073709551616, 18446744073709551651)]) := by rw [show Γ bA = 70 from hΓA]; rfl
  have kS : nkKds[Γ bS]? = some (1, 0, 30, 1, [(0, 18446744073709551616, 18446744073709551628)]) := by rw [show Γ bS = 71 from hΓS]; rfl
  have kP : nkKds[Γ bP]? = some (1, 0, 30, 1, [(0, 18446744071562067968, 18446744075857035263)]) := by rw [show Γ bP = 72 from hΓP]; rfl
  have kI : nkKds[Γ bI]? = some (1, 0, 30, 1, [(0, 18446744071562067968, 18446744075857035263)]) := by rw [show Γ bI = 73 from hΓI]; rfl
  have fd0 : ∀ {f x : Nat}, (0, f, x) ∈ (nkd1_X5 0).2.2.2.2.1 → nkFd (D, nkKds, Γ) s.heap a0 f (ρ2 x) := fun {f x} hq => by
    obtain ⟨x0, q1, -⟩ := nkFd.some (E := (D, nkKds, Γ)) (f := f) hR.1.2.2.2.2.1 (a := a0) (ci := 12) (n := 64) (P := 0) (ts := nkKds_41.2.2.2.2) (by show nkKds[Γ a0]? = _; rw [show Γ a0 = 41 from hΓ0]; rfl) (nkd1_fn f x hq)
    have q2 := nkMe.fd (E := (D, nkKds, Γ)) hR2.1.2.1 (show (0, f, x) ∈ (nkd1_X5 v).2.2.2.2.1 from hq) g0
    have q3 := (q1.kept hF2.2.2.2 rfl).fn q2
    rw [← q3]
    exact q1
  have el : ∀ {H : Heap} {bX N ti : Nat} {tv : nkV} {z : Nat → Value}, nkKp (D, nkKds, Γ) [] s.heap H → nkKds[Γ bX]? = some (1, ti, N, 1, [tv]) → H[bX]? = some (arrV (D.2.2 ti) N z) → ∀ j, j < N → nkFd (D, nkKds, Γ) s.heap bX j (z j) := fun {H bX N ti tv z} hK hk hz j hj => by
    obtain ⟨z0, hz0, -⟩ := nk_cel1 (E := (D, nkKds, Γ)) hR.1.2.2.2.2.1 hk
    have h1 : z j = z0 j := nk_kpA (E := (D, nkKds, Γ)) hK hk rfl hj hz0 hz
    rw [h1]
    exact ⟨_, _, hk, hj, hz0, arrV_read _ _ hj⟩
  have hDF : nkDFa (D, nkKds, Γ) s.heap a0 b1 bT bU bA bS bP bI sn := ⟨h3 ▸ fd0 (by decide), h4 ▸ fd0 (by decide), h5 ▸ fd0 (by decide), h6 ▸ fd0 (by decide), h7 ▸ fd0 (by decide), h8 ▸ fd0 (by decide), h9 ▸ fd0 (by decide), h10 ▸ fd0 (by decide)⟩
  have ret : ∀ (a : nkS) (i : Nat) (σ : nkSg) (bv : Bool) (ρ5 : Nat → Value) (H5 : Heap) (r : Option Value) (t : State), nk_ent 3 (nkd1_F v) a = some σ → nk_stB a = true → nkX 3 ρ ρ5 → nkT (D, nkKds, Γ) a ρ5 H5 → nkFr (D, nkKds, Γ) [] s.heap H5 [] → nkRt a ρ5 r → t.heap = H5 → r = some (.int (cond bv 1 0)) → (bv = true ↔ nkDF (D, nkKds, Γ) s.heap a0 v kk) → nkQg (D, nkKds, Γ) [] [nkd1_F v] 3 ρ (fun H _ r _ _ => ∀ (a : Nat) (k : Int32), ρ 0 = .ref a → ρ 2 = .int k → (r = some (.int 1) ↔ nkDF (D, nkKds, Γ) H a v k) ∧ (r = some (.int 1) ∨ r = some (.int 0))) args s (.returned r) t := by
    intro a i σ bv ρ5 H5 r t hent hstb hX5 hT5 hF5 hv ht hr hiff
    refine nk_finG (F := nkd1_F v) hent hstb hT5 hX5 (by show 3 ≤ 4; decide) (List.mem_singleton.mpr rfl) hv ht hF5 ?_
    intro a k ea ek
    rw [ea0] at ea
    cases ea
    rw [ekk] at ek
    cases ek
    rw [hr]
    cases bv with
    | true => exact ⟨⟨fun _ => hiff.mp rfl, fun _ => rfl⟩, Or.inl rfl⟩
    | false => exact ⟨⟨fun q => absurd q (by decide), fun q => absurd (hiff.mpr q) (by decide)⟩, Or.inr rfl⟩
  have loop : ∀ (d n : Nat) (ρ3 : Nat → Value) (H3 : Heap) (l3 : List Loc) (ls3 : Array Slot) (st3 : List Value), sn - n = d → n ≤ sn → (∀ i, i < 11 → ρ3 i = ρ2 i) → ρ3 11 = .int (nI n) → nkR (D, nkKds, Γ) y.2.2.1 [] s.heap (nkd1_L v) ρ3 H3 l3 ls3 st3 → (∃ x : Int32, nkFd (D, nkKds, Γ) s.heap b1 v (.int x) ∧ x ≠ 0) → (∀ n', n' < n → nkDFc (D, nkKds, Γ) s.heap bT bU bA bS bP bI v n' kk) → W p l e R s m args below meth c H3 l3 0 0 (MQ below (nkQg (D, nkKds, Γ) [] [nkd1_F v] 3 ρ (fun H _ r _ _ => ∀ (a : Nat) (k : Int32), ρ 0 = .ref a → ρ 2 = .int k → (r = some (.int 1) ↔ nkDF (D, nkKds, Γ) H a v k) ∧ (r = some (.int 1) ∨ r = some (.int 0)))) args s 0 0 (nkA (D, nkKds, Γ))) (F0 m 13 ls3 st3) := by
    intro d
    induction d using Nat.strongRecOn with
    | ind d ih =>
      intro n ρ3 H3 l3 ls3 st3 hd hns y3 b11 hR3 hx1 hall
      refine nk_segH (nk_nil _) (nkd1_c v hv36) rfl hh hR3 (fun ce hce ρ4 H4 l4 ls4 st4 hX4 hR4 hF4 => ?_) (fun a ha ρ4 H4 r t hX4 hT4 hF4 hF5 hv ht => ?_)
      · obtain rfl := List.mem_singleton.mp hce
        have hR4 : nkR (D, nkKds, Γ) y.2.2.1 [] s.heap (nkd1_X26 v) ρ4 H4 l4 ls4 st4 := hR4
        show W p l e R s m args below meth c H4 l4 0 0 _ (F0 m 26 ls4 st4)
        have y4 : ∀ i, i < 11 → ρ4 i = ρ2 i := fun i hi => (hX4 i (by omega)).trans (y3 i hi)
        have c11 : ρ4 11 = .int (nI n) := (hX4 11 (by decide)).trans b11
        have hlt : n < sn := by
          have q := nk_di2 hR4.1.2.2.1 (a := 11) (b := 10) (c := 18446744073709551615) List.mem_cons_self c11 ((y4 10 (by decide)).trans h10)
          rw [nI_toInt (by omega), nI_toInt (by omega)] at q
          omega
        have hn30 : n < 30 := by omega
        -- where it goes on
        have next : ∀ (ρ9 : Nat → Value) (H9 : Heap) (l9 : List Loc) (ls9 : Array Slot) (st9 : List Value), (∀ i, i < 11 → ρ9 i = ρ2 i) → ρ9 11 = .int (nI n) → nkR (D, nkKds, Γ) y.2.2.1 [] s.heap nkd1_Y98 ρ9 H9 l9 ls9 st9 → nkDFc (D, nkKds, Γ) s.heap bT bU bA bS bP bI v n kk → W p l e R s m args below meth c H9 l9 0 0 (MQ below (nkQg (D, nkKds, Γ) [] [nkd1_F v] 3 ρ (fun H _ r _ _ => ∀ (a : Nat) (k : Int32), ρ 0 = .ref a → ρ 2 = .int k → (r = some (.int 1) ↔ nkDF (D, nkKds, Γ) H a v k) ∧ (r = some (.int 1) ∨ r = some (.int 0)))) args s 0 0 (nkA (D, nkKds, Γ))) (F0 m 98 ls9 st9) := by
          intro ρ9 H9 l9 ls9 st9 y9 d11 hR9 hc
          refine nk_segH (nk_nil _) nkd1_k rfl hh hR9 (fun ce hce ρa Ha la lsa sta hXa hRa hFa => ?_) (fun a ha => by cases ha)
          obtain rfl := List.mem_singleton.mp hce
          have hRa : nkR (D, nkKds, Γ) y.2.2.1 [] s.heap nkd1_Ln ρa Ha la lsa sta := hRa
          show W p l e R s m args below meth c Ha la 0 0 _ (F0 m 13 lsa sta)
          have ya : ∀ i, i < 11 → ρa i = ρ2 i := fun i hi => (hXa i (by omega)).trans (y9 i hi)
          have u12 : ρa 12 = .int (nI (n + 1)) := nk_dval hRa.1.2.2.1 (show (12, 11, 18446744073709551617) ∈ nkd1_Ln.2.2.2.2.2.1 by decide) (show (11, 12, 18446744073709551615) ∈ nkd1_Ln.2.2.2.2.2.1 by decide) ((hXa 11 (by decide)).trans d11) (by omega) (d := 1) (by omega) (by omega) (by omega)
          have hRb := nk_set_ok (i := 1) (v := (0, 18446744073709551616 + v, 18446744073709551616 + v)) hRa (by rw [(ya 1 (by decide)).trans g1]; exact nk_okI (by rw [nI_toInt (by omega)]; omega) (by rw [nI_toInt (by omega)]; omega))
          obtain ⟨hRc, hXc, -, -⟩ := nk_ent_ok (nkd1_eL v hv36) hRb
          exact ih (sn - (n + 1)) (by omega) (n + 1) _ Ha la lsa sta rfl (by omega) (fun i hi => (hXc i hi).trans (ya i hi)) u12 hRc hx1 (fun n' hn' => by
            by_cases h : n' = n
            · subst h
              exact hc
            · exact hall n' (by omega))
        obtain ⟨zT, hzT, -⟩ := nk_cel1 (E := (D, nkKds, Γ)) hR4.1.2.2.2.2.1 kT
        obtain ⟨xT, exT⟩ : ∃ xT : Int32, zT n = .int xT := by
          obtain ⟨zT', hzT', ht'⟩ := nk_cel1 (E := (D, nkKds, Γ)) hR4.1.2.2.2.2.1 kT
          obtain ⟨x, ex, -, -⟩ := nk_int (ht' n hn30)
          refine ⟨x, ?_⟩
          have h6 := arrV_read (D.2.2 0) zT hn30
          have h7 := arrV_read (D.2.2 0) zT' hn30
          have h8 := hzT.symm.trans hzT'
          rw [Option.some.inj h8, h7] at h6
          exact (Option.some.inj h6).symm.trans ex
        have fT : nkFd (D, nkKds, Γ) s.heap bT n (.int xT) := exT ▸ el hR4.2.2.2.2.2.2 kT hzT n hn30
        refine nk_hLd hh (show nk_dk (nk_nD nhDa 277 []) 26 = some (.iaload, 1) by decide +kernel) (S := nkd1_X26 v) (x := 11) (o := 4) (rest := []) rfl hR4 ((y4 4 (by decide)).trans h4) hzT c11 hn30 (by decide) exT (v := (0, 18446744071562067968, 18446744075857035263)) (nk_fl_ok Γ xT) (fun st5 hR5 => ?_)
        refine nk_segH (nk_nil _) (nkd1_d v hv36) rfl hh hR5 (fun ce hce ρ6 H6 l6 ls6 st6 hX6 hR6 hF6 => ?_) (fun a ha => by cases ha)
        have y6 : ∀ i, i < 12 → ρ6 i = ρ4 i := fun i hi => (hX6 i (by omega)).trans (nkX.push 12 ρ4 _ i hi)
        have y6' : ∀ i, i < 11 → ρ6 i = ρ2 i := fun i hi => (y6 i (by omega)).trans (y4 i hi)
        have d11 : ρ6 11 = .int (nI n) := (y6 11 (by decide)).trans c11
        have d12 : ρ6 12 = .int xT := (hX6 12 (by decide)).trans (nk_upd 12 ρ4 _)
        rcases List.mem_cons.mp hce with rfl | hce
        · have hR6 : nkR (D, nkKds, Γ) y.2.2.1 [] s.heap (nkd1_Y98a v) ρ6 H6 l6 ls6 st6 := hR6
          have q := nk_di2 hR6.1.2.2.1 (a := 2) (b := 12) (c := 18446744073709551615) List.mem_cons_self ((y6' 2 (by decide)).trans g2) d12
          obtain ⟨hR7, hX7, -, -⟩ := nk_ent_ok (nkd1_ea v hv36) hR6
          exact next _ H6 l6 ls6 st6 (fun i hi => (hX7 i (by omega)).trans (y6' i hi)) ((hX7 11 (by decide)).trans d11) hR7 (Or.inl ⟨xT, fT, by omega⟩)
        · obtain rfl := List.mem_singleton.mp hce
          have hR6 : nkR (D, nkKds, Γ) y.2.2.1 [] s.heap (nkd1_X36 v) ρ6 H6 l6 ls6 st6 := hR6
          show W p l e R s m args below meth c H6 l6 0 0 _ (F0 m 36 ls6 st6)
          have qT := nk_di2 hR6.1.2.2.1 (a := 12) (b := 2) (c := 18446744073709551616) List.mem_cons_self d12 ((y6' 2 (by decide)).trans g2)
          obtain ⟨zU, hzU, htU⟩ := nk_cel1 (E := (D, nkKds, Γ)) hR6.1.2.2.2.2.1 kU
          obtain ⟨xU, exU, -, -⟩ := nk_int (htU n hn30)
          have fU : nkFd (D, nkKds, Γ) s.heap bU n (.int xU) := exU ▸ el hR6.2.2.2.2.2.2 kU hzU n hn30
          -- the rest: the place is looked at
          have rest : (xU.toInt < 0 ∨ kk.toInt < xU.toInt) → ∀ (q : Nat) (ρ7 : Nat → Value) (H7 : Heap) (l7 : List Loc) (ls7 : Array Slot) (st7 : List Value), q < 13 → nkFd (D, nkKds, Γ) s.heap bS n (.int (nI q)) → (∀ i, i < 11 → ρ7 i = ρ2 i) → ρ7 11 = .int (nI n) → nkR (D, nkKds, Γ) y.2.2.1 [] s.heap (nkd1_X68 v q) ρ7 H7 l7 ls7 st7 → W p l e R s m args below meth c H7 l7 0 0 (MQ below (nkQg (D, nkKds, Γ) [] [nkd1_F v] 3 ρ (fun H _ r _ _ => ∀ (a : Nat) (k : Int32), ρ 0 = .ref a → ρ 2 = .int k → (r = some (.int 1) ↔ nkDF (D, nkKds, Γ) H a v k) ∧ (r = some (.int 1) ∨ r = some (.int 0)))) args s 0 0 (nkA (D, nkKds, Γ))) (F0 m 68 ls7 st7) := by
            intro hU q ρ7 H7 l7 ls7 st7 hq fS y7 e11 hR7
            have no : ∀ {xA xP xI : Int32}, nkFd (D, nkKds, Γ) s.heap bA (13 * v + q) (.int xA) → nkFd (D, nkKds, Γ) s.heap bP n (.int xP) → nkFd (D, nkKds, Γ) s.heap bI n (.int xI) → ¬ ((xA = xP ∧ xI = 1) ∨ (xA ≠ xP ∧ xI = 0)) → ¬ nkDF (D, nkKds, Γ) s.heap a0 v kk := fun {xA xP xI} fA fP fI hno hdf => by
              obtain ⟨c1, cT, cU, cA, cS, cP, cI, cn, hca, -, hcl⟩ := hdf
              obtain ⟨i1, i2, i3, i4, i5, i6, i7, i8⟩ := hca
              obtain ⟨j1, j2, j3, j4, j5, j6, j7, j8⟩ := hDF
              cases i2.fn j2
              cases i3.fn j3
              cases i4.fn j4
              cases i5.fn j5
              cases i6.fn j6
              cases i7.fn j7
              have ecn : n < cn := by
                have h5 := Value.int.inj (i8.fn j8)
                by_cases hcn : cn < 2 ^ 31
                · have h6 := congrArg Int32.toInt h5
                  rw [nI_toInt hcn, nI_toInt (by omega)] at h6
                  omega
                · omega
              rcases hcl n ecn with ⟨x, q1, q2⟩ | ⟨x, q1, q2, q3⟩ | ⟨qq, x, xp, hqq, q1, q2, q3, q4⟩
              · cases q1.fn fT
                omega
              · cases q1.fn fU
                omega
              · have hq1 := Value.int.inj (q1.fn fS)
                have hqe : qq = q := by
                  have h6 := congrArg Int32.toInt hq1
                  rw [nI_toInt (by omega), nI_toInt (by omega)] at h6
                  omega
                subst hqe
                cases q2.fn fA
                cases q3.fn fP
                rcases q4 with ⟨r1, r2⟩ | ⟨r1, r2⟩
                · cases r2.fn fI
                  exact hno (Or.inl ⟨r1, rfl⟩)
                · cases r2.fn fI
                  exact hno (Or.inr ⟨r1, rfl⟩)
            obtain ⟨zA, hzA, htA⟩ := nk_cel1 (E := (D, nkKds, Γ)) hR7.1.2.2.2.2.1 kA
            obtain ⟨xA, exA, xA1, xA2⟩ := nk_int (htA (13 * v + q) (by omega))
            have fA : nkFd (D, nkKds, Γ) s.heap bA (13 * v + q) (.int xA) := exA ▸ el hR7.2.2.2.2.2.2 kA hzA (13 * v + q) (by omega)
            obtain ⟨pA, hpA, epA, fpA⟩ := nh_nI (x := xA) (by omega)
            have e12 : ρ7 12 = .int (nI (13 * v + q)) := by
              obtain ⟨r, er, r1, r2⟩ := nk_int (hR7.1.1 12 _ rfl)
              rw [er, nk_nI (x := r) (m := 13 * v + q) (by omega)]
            have hR7g := (nk_ent_ok (nkd1_eg v q hv36 hq) hR7).1
            have py7 : ∀ i, i < 13 → nk_pk (13, nk_idl 13) ρ7 i = ρ7 i := fun i hi => nk_pk_at (nk_idl_g hi)
            refine nk_hLd hh (show nk_dk (nk_nD nhDa 277 []) 68 = some (.iaload, 1) by decide +kernel) (S := nkd1_X68g) (x := 12) (o := 6) (rest := []) rfl hR7g ((py7 6 (by decide)).trans ((y7 6 (by decide)).trans h6)) hzA ((py7 12 (by decide)).trans e12) (by omega) (by decide) exA (v := (0, 18446744073709551616, 18446744073709551651)) (nk_okI (by omega) (by omega)) (fun st8 hR8 => ?_)
            refine nk_segH (nk_nil _) nkd1_h rfl hh hR8 (fun ce hce ρ8 H8 l8 ls8 st8' hX8 hR8' hF8 => ?_) (fun a ha => by cases ha)
            obtain rfl := List.mem_singleton.mp hce
            have hR8' : nkR (D, nkKds, Γ) y.2.2.1 [] s.heap nkd1_X74 ρ8 H8 l8 ls8 st8' := hR8'
            show W p l e R s m args below meth c H8 l8 0 0 _ (F0 m 74 ls8 st8')
            have y8 : ∀ i, i < 12 → ρ8 i = ρ7 i := fun i hi => (hX8 i (by omega)).trans ((nkX.push 13 _ _ i (by omega)).trans (py7 i (by omega)))
            have y8' : ∀ i, i < 11 → ρ8 i = ρ2 i := fun i hi => (y8 i (by omega)).trans (y7 i hi)
            have f11 : ρ8 11 = .int (nI n) := (y8 11 (by decide)).trans e11
            have f13 : ρ8 13 = .int xA := (hX8 13 (by decide)).trans (nk_upd 13 _ _)
            have hR9 := nk_set_ok (i := 13) (v := (0, 18446744073709551616 + pA, 18446744073709551616 + pA)) hR8' (by rw [f13]; exact nk_okI (by omega) (by omega))
            obtain ⟨zP, hzP, htP⟩ := nk_cel1 (E := (D, nkKds, Γ)) hR8'.1.2.2.2.2.1 kP
            obtain ⟨xP, exP, xP1, xP2⟩ := nk_int (htP n hn30)
            have fP : nkFd (D, nkKds, Γ) s.heap bP n (.int xP) := exP ▸ el hR8'.2.2.2.2.2.2 kP hzP n hn30
            have hp36 : pA < 36 := by omega
            -- behind the comparison
            have fin0 : ∀ (ρa : Nat → Value) (Ha : Heap) (la : List Loc) (lsa : Array Slot) (sta : List Value), xA ≠ xP → (∀ i, i < 11 → ρa i = ρ2 i) → ρa 11 = .int (nI n) → nkR (D, nkKds, Γ) y.2.2.1 [] s.heap nkd1_X920 ρa Ha la lsa sta → W p l e R s m args below meth c Ha la 0 0 (MQ below (nkQg (D, nkKds, Γ) [] [nkd1_F v] 3 ρ (fun H _ r _ _ => ∀ (a : Nat) (k : Int32), ρ 0 = .ref a → ρ 2 = .int k → (r = some (.int 1) ↔ nkDF (D, nkKds, Γ) H a v k) ∧ (r = some (.int 1) ∨ r = some (.int 0)))) args s 0 0 (nkA (D, nkKds, Γ))) (F0 m 92 lsa sta) := by
              intro ρa Ha la lsa sta hne ya a11 hRa
              have hRa : nkR (D, nkKds, Γ) y.2.2.1 [] s.heap nkd1_X920 ρa Ha la lsa sta := hRa
              obtain ⟨zI, hzI, htI⟩ := nk_cel1 (E := (D, nkKds, Γ)) hRa.1.2.2.2.2.1 kI
              obtain ⟨xI, exI, xI1, xI2⟩ := nk_int (htI n hn30)
              have fI : nkFd (D, nkKds, Γ) s.heap bI n (.int xI) := exI ▸ el hRa.2.2.2.2.2.2 kI hzI n hn30
              have bad : ∀ (tv : nkV), nk_sgM nkKds [] nkd1_sp 277 0 0 [] [] 12 [nkd1_R2] 300 (nk_push nkd1_X920 [12] tv) 93 = true → nkOk Γ tv (.int xI) → xI ≠ 0 → W p l e R s m args below meth c Ha la 0 0 (MQ below (nkQg (D, nkKds, Γ) [] [nkd1_F v] 3 ρ (fun H _ r _ _ => ∀ (a : Nat) (k : Int32), ρ 0 = .ref a → ρ 2 = .int k → (r = some (.int 1) ↔ nkDF (D, nkKds, Γ) H a v k) ∧ (r = some (.int 1) ∨ r = some (.int 0)))) args s 0 0 (nkA (D, nkKds, Γ))) (F0 m 92 lsa sta) := fun tv hseg hok hne2 => by
                refine nk_hLd hh (show nk_dk (nk_nD nhDa 277 []) 92 = some (.iaload, 1) by decide +kernel) (S := nkd1_X920) (x := 11) (o := 9) (rest := [12]) rfl hRa ((ya 9 (by decide)).trans h9) hzI a11 hn30 (by decide) exI (v := tv) hok (fun stb hRb => ?_)
                refine nk_segH (nk_nil _) hseg rfl hh hRb (fun ce hce => by cases hce) (fun a ha ρc Hc r t hXc hTc hFc hFd hv ht => ?_)
                obtain rfl := List.mem_singleton.mp ha
                have hr1 : r = some (.int (cond false 1 0)) := by
                  obtain ⟨x, ex, x1, x2⟩ := nk_int (hTc.1 12 _ rfl)
                  rw [hv.2, ex]
                  have : x = 0 := by rw [nk_nI (x := x) (m := 0) (by omega)]; rfl
                  rw [this]
                  rfl
                have yc : ∀ i, i < 3 → ρc i = ρ i := fun i hi => (hXc i (by omega)).trans ((nkX.push 13 ρa _ i (by omega)).trans ((ya i (by omega)).trans (hX2 i hi)))
                have hTs : nkT (D, nkKds, Γ) (nk_set nkd1_R2 1 (0, 18446744073709551616 + v, 18446744073709551616 + v)) ρc Hc := ⟨fun i w hi => (nk_g_u hi).elim (fun q => by rw [q.1, q.2, yc 1 (by decide), e1]; exact nk_okI (by rw [nI_toInt (by omega)]; omega) (by rw [nI_toInt (by omega)]; omega)) (fun q => hTc.1 i w q), hTc.2⟩
                exact ret _ 0 _ false ρc Hc r t (nkd1_r2 v hv36) (nkd1_s2 v hv36) yc hTs hFd hv ht hr1 ⟨fun q => (by cases q), fun hdf => absurd hdf (no fA fP fI (by
                  rintro (⟨q1, q2⟩ | ⟨q1, q2⟩)
                  · exact hne q1
                  · exact hne2 q2))⟩
              by_cases cI : xI.toInt = 0
              · refine nk_hLd hh (show nk_dk (nk_nD nhDa 277 []) 92 = some (.iaload, 1) by decide +kernel) (S := nkd1_X920) (x := 11) (o := 9) (rest := [12]) rfl hRa ((ya 9 (by decide)).trans h9) hzI a11 hn30 (by decide) exI (v := (0, 18446744073709551616, 18446744073709551616)) (nk_okI (by omega) (by omega)) (fun stb hRb => ?_)
                refine nk_segH (nk_nil _) nkd1_j0e rfl hh hRb (fun ce hce ρc Hc lc lsc stc hXc hRc hFc => ?_) (fun a ha => by cases ha)
                obtain rfl := List.mem_singleton.mp hce
                have yc : ∀ i, i < 12 → ρc i = ρa i := fun i hi => (hXc i hi).trans (nkX.push 13 ρa _ i (by omega))
                have hxI : xI = 0 := by rw [nk_nI (x := xI) (m := 0) (by omega)]; rfl
                rw [hxI] at fI
                exact next ρc Hc lc lsc stc (fun i hi => (yc i (by omega)).trans (ya i hi)) ((yc 11 (by decide)).trans a11) hRc (Or.inr (Or.inr ⟨q, xA, xP, by omega, fS, fA, fP, Or.inr ⟨hne, fI⟩⟩))
              · have hxI : xI ≠ 0 := fun q => cI (by rw [q]; rfl)
                by_cases cI2 : xI.toInt < 0
                · exact bad (0, 18446744071562067968, 18446744073709551615) nkd1_j0l (nk_okI (by have := fb_rng xI; omega) (by omega)) hxI
                · exact bad (0, 18446744073709551617, 18446744075857035263) nkd1_j0g (nk_okI (by omega) (by have := fb_rng xI; omega)) hxI
            have fin1 : ∀ (ρa : Nat → Value) (Ha : Heap) (la : List Loc) (lsa : Array Slot) (sta : List Value), xA = xP → (∀ i, i < 11 → ρa i = ρ2 i) → ρa 11 = .int (nI n) → nkR (D, nkKds, Γ) y.2.2.1 [] s.heap nkd1_X921 ρa Ha la lsa sta → W p l e R s m args below meth c Ha la 0 0 (MQ below (nkQg (D, nkKds, Γ) [] [nkd1_F v] 3 ρ (fun H _ r _ _ => ∀ (a : Nat) (k : Int32), ρ 0 = .ref a → ρ 2 = .int k → (r = some (.int 1) ↔ nkDF (D, nkKds, Γ) H a v k) ∧ (r = some (.int 1) ∨ r = some (.int 0)))) args s 0 0 (nkA (D, nkKds, Γ))) (F0 m 92 lsa sta) := by
              intro ρa Ha la lsa sta hne ya a11 hRa
              have hRa : nkR (D, nkKds, Γ) y.2.2.1 [] s.heap nkd1_X921 ρa Ha la lsa sta := hRa
              obtain ⟨zI, hzI, htI⟩ := nk_cel1 (E := (D, nkKds, Γ)) hRa.1.2.2.2.2.1 kI
              obtain ⟨xI, exI, xI1, xI2⟩ := nk_int (htI n hn30)
              have fI : nkFd (D, nkKds, Γ) s.heap bI n (.int xI) := exI ▸ el hRa.2.2.2.2.2.2 kI hzI n hn30
              have bad : ∀ (tv : nkV), nk_sgM nkKds [] nkd1_sp 277 0 0 [] [] 12 [nkd1_R2] 300 (nk_push nkd1_X921 [12] tv) 93 = true → nkOk Γ tv (.int xI) → xI ≠ 1 → W p l e R s m args below meth c Ha la 0 0 (MQ below (nkQg (D, nkKds, Γ) [] [nkd1_F v] 3 ρ (fun H _ r _ _ => ∀ (a : Nat) (k : Int32), ρ 0 = .ref a → ρ 2 = .int k → (r = some (.int 1) ↔ nkDF (D, nkKds, Γ) H a v k) ∧ (r = some (.int 1) ∨ r = some (.int 0)))) args s 0 0 (nkA (D, nkKds, Γ))) (F0 m 92 lsa sta) := fun tv hseg hok hne2 => by
                refine nk_hLd hh (show nk_dk (nk_nD nhDa 277 []) 92 = some (.iaload, 1) by decide +kernel) (S := nkd1_X921) (x := 11) (o := 9) (rest := [12]) rfl hRa ((ya 9 (by decide)).trans h9) hzI a11 hn30 (by decide) exI (v := tv) hok (fun stb hRb => ?_)
                refine nk_segH (nk_nil _) hseg rfl hh hRb (fun ce hce => by cases hce) (fun a ha ρc Hc r t hXc hTc hFc hFd hv ht => ?_)
                obtain rfl := List.mem_singleton.mp ha
                have hr1 : r = some (.int (cond false 1 0)) := by
                  obtain ⟨x, ex, x1, x2⟩ := nk_int (hTc.1 12 _ rfl)
                  rw [hv.2, ex]
                  have : x = 0 := by rw [nk_nI (x := x) (m := 0) (by omega)]; rfl
                  rw [this]
                  rfl
                have yc : ∀ i, i < 3 → ρc i = ρ i := fun i hi => (hXc i (by omega)).trans ((nkX.push 13 ρa _ i (by omega)).trans ((ya i (by omega)).trans (hX2 i hi)))
                have hTs : nkT (D, nkKds, Γ) (nk_set nkd1_R2 1 (0, 18446744073709551616 + v, 18446744073709551616 + v)) ρc Hc := ⟨fun i w hi => (nk_g_u hi).elim (fun q => by rw [q.1, q.2, yc 1 (by decide), e1]; exact nk_okI (by rw [nI_toInt (by omega)]; omega) (by rw [nI_toInt (by omega)]; omega)) (fun q => hTc.1 i w q), hTc.2⟩
                exact ret _ 0 _ false ρc Hc r t (nkd1_r2 v hv36) (nkd1_s2 v hv36) yc hTs hFd hv ht hr1 ⟨fun q => (by cases q), fun hdf => absurd hdf (no fA fP fI (by
                  rintro (⟨q1, q2⟩ | ⟨q1, q2⟩)
                  · exact hne2 q2
                  · exact q1 hne))⟩
              by_cases cI : xI.toInt = 1
              · refine nk_hLd hh (show nk_dk (nk_nD nhDa 277 []) 92 = some (.iaload, 1) by decide +kernel) (S := nkd1_X921) (x := 11) (o := 9) (rest := [12]) rfl hRa ((ya 9 (by decide)).trans h9) hzI a11 hn30 (by decide) exI (v := (0, 18446744073709551617, 18446744073709551617)) (nk_okI (by omega) (by omega)) (fun stb hRb => ?_)
                refine nk_segH (nk_nil _) nkd1_j1e rfl hh hRb (fun ce hce ρc Hc lc lsc stc hXc hRc hFc => ?_) (fun a ha => by cases ha)
                obtain rfl := List.mem_singleton.mp hce
                have yc : ∀ i, i < 12 → ρc i = ρa i := fun i hi => (hXc i hi).trans (nkX.push 13 ρa _ i (by omega))
                have hxI : xI = 1 := by rw [nk_nI (x := xI) (m := 1) (by omega)]; rfl
                rw [hxI] at fI
                exact next ρc Hc lc lsc stc (fun i hi => (yc i (by omega)).trans (ya i hi)) ((yc 11 (by decide)).trans a11) hRc (Or.inr (Or.inr ⟨q, xA, xP, by omega, fS, fA, fP, Or.inl ⟨hne, fI⟩⟩))
              · have hxI : xI ≠ 1 := fun q => cI (by rw [q]; rfl)
                by_cases cI2 : xI.toInt < 1
                · exact bad (0, 18446744071562067968, 18446744073709551616) nkd1_j1l (nk_okI (by have := fb_rng xI; omega) (by omega)) hxI
                · exact bad (0, 18446744073709551618, 18446744075857035263) nkd1_j1g (nk_okI (by omega) (by have := fb_rng xI; omega)) hxI
            have go : ∀ (tv : nkV) (c92 : Nat) (P92 : nkS), nk_sgM nkKds [] nkd1_sp 277 0 0 [] [(92, P92, [])] 12 [] 300 (nk_push (nk_set nkd1_X74 13 (0, 18446744073709551616 + pA, 18446744073709551616 + pA)) [13] tv) 75 = true → nkOk Γ tv (.int xP) → (∀ (ρa : Nat → Value) (Ha : Heap) (la : List Loc) (lsa : Array Slot) (sta : List Value), (∀ i, i < 11 → ρa i = ρ2 i) → ρa 11 = .int (nI n) → nkR (D, nkKds, Γ) y.2.2.1 [] s.heap P92 ρa Ha la lsa sta → W p l e R s m args below meth c Ha la 0 0 (MQ below (nkQg (D, nkKds, Γ) [] [nkd1_F v] 3 ρ (fun H _ r _ _ => ∀ (a : Nat) (k : Int32), ρ 0 = .ref a → ρ 2 = .int k → (r = some (.int 1) ↔ nkDF (D, nkKds, Γ) H a v k) ∧ (r = some (.int 1) ∨ r = some (.int 0)))) args s 0 0 (nkA (D, nkKds, Γ))) (F0 m 92 lsa sta)) → W p l e R s m args below meth c H8 l8 0 0 (MQ below (nkQg (D, nkKds, Γ) [] [nkd1_F v] 3 ρ (fun H _ r _ _ => ∀ (a : Nat) (k : Int32), ρ 0 = .ref a → ρ 2 = .int k → (r = some (.int 1) ↔ nkDF (D, nkKds, Γ) H a v k) ∧ (r = some (.int 1) ∨ r = some (.int 0)))) args s 0 0 (nkA (D, nkKds, Γ))) (F0 m 74 ls8 st8') := fun tv c92 P92 hseg hok kk2 => by
              refine nk_hLd hh (show nk_dk (nk_nD nhDa 277 []) 74 = some (.iaload, 1) by decide +kernel) (S := nk_set nkd1_X74 13 (0, 18446744073709551616 + pA, 18446744073709551616 + pA)) (x := 11) (o := 8) (rest := [13]) rfl hR9 ((y8' 8 (by decide)).trans h8) hzP f11 hn30 (by decide) exP (v := tv) hok (fun st10 hR10 => ?_)
              refine nk_segH (nk_nil _) hseg rfl hh hR10 (fun ce hce ρa Ha la lsa sta hXa hRa hFa => ?_) (fun a ha => by cases ha)
              obtain rfl := List.mem_singleton.mp hce
              have ya : ∀ i, i < 12 → ρa i = ρ8 i := fun i hi => (hXa i hi).trans (nkX.push 14 _ _ i (by omega))
              exact kk2 ρa Ha la lsa sta (fun i hi => (ya i (by omega)).trans (y8' i hi)) ((ya 11 (by decide)).trans f11) hRa
            by_cases c1 : xP.toInt = xA.toInt
            · have hxe : xA = xP := by rw [epA, nk_nI (x := xP) (m := pA) (by omega)]
              exact go (0, 18446744073709551616 + pA, 18446744073709551616 + pA) 1 nkd1_X921 (nkd1_ie pA hp36) (nk_okI (by omega) (by omega)) (fun ρa Ha la lsa sta ya a11 hRa => fin1 ρa Ha la lsa sta hxe ya a11 hRa)
            · have hxn : xA ≠ xP := fun q => c1 (by rw [q])
              by_cases c2 : xP.toInt < xA.toInt
              · exact go (0, 18446744071562067968, 18446744073709551615 + pA) 0 nkd1_X920 (nkd1_il pA hp36) (nk_okI (by omega) (by omega)) (fun ρa Ha la lsa sta ya a11 hRa => fin0 ρa Ha la lsa sta hxn ya a11 hRa)
              · exact go (0, 18446744073709551616 + 1 + pA, 18446744075857035263) 0 nkd1_X920 (nkd1_ig pA hp36) (nk_okI (by omega) (by omega)) (fun ρa Ha la lsa sta ya a11 hRa => fin0 ρa Ha la lsa sta hxn ya a11 hRa)
          by_cases cU : xU.toInt < 0
          · refine nk_hLd hh (show nk_dk (nk_nD nhDa 277 []) 36 = some (.iaload, 1) by decide +kernel) (S := nkd1_X36 v) (x := 11) (o := 5) (rest := []) rfl hR6 ((y6' 5 (by decide)).trans h5) hzU d11 hn30 (by decide) exU (v := (0, 18446744071562067968, 18446744073709551615)) (nk_okI (by have := fb_rng xU; omega) (by omega)) (fun st7 hR7 => ?_)
            refine nk_segH (nk_nil _) (nkd1_e1 v hv36) rfl hh hR7 (fun ce hce ρ8 H8 l8 ls8 st8 hX8 hR8 hF8 => ?_) (fun a ha => by cases ha)
            obtain rfl := List.mem_singleton.mp hce
            have hR8 : nkR (D, nkKds, Γ) y.2.2.1 [] s.heap (nkd1_X66 v) ρ8 H8 l8 ls8 st8 := hR8
            show W p l e R s m args below meth c H8 l8 0 0 _ (F0 m 66 ls8 st8)
            have y8 : ∀ i, i < 12 → ρ8 i = ρ6 i := fun i hi => (hX8 i hi).trans (nkX.push 13 _ _ i (by omega))
            obtain ⟨zS, hzS, htS⟩ := nk_cel1 (E := (D, nkKds, Γ)) hR8.1.2.2.2.2.1 kS
            obtain ⟨xS, exS, xS1, xS2⟩ := nk_int (htS n hn30)
            obtain ⟨q, hq, eq, fq⟩ := nh_nI (x := xS) (by omega)
            rw [eq] at exS
            have fS : nkFd (D, nkKds, Γ) s.heap bS n (.int (nI q)) := exS ▸ el hR8.2.2.2.2.2.2 kS hzS n hn30
            have hq13 : q < 13 := by omega
            refine nk_hLd hh (show nk_dk (nk_nD nhDa 277 []) 66 = some (.iaload, 1) by decide +kernel) (S := nkd1_X66 v) (x := 11) (o := 7) (rest := [12, 6]) rfl hR8 ((y8 7 (by decide)).trans ((y6' 7 (by decide)).trans h7)) hzS ((y8 11 (by decide)).trans d11) hn30 (by decide) exS (v := (0, 18446744073709551616 + q, 18446744073709551616 + q)) (nk_okI (by rw [nI_toInt hq]; omega) (by rw [nI_toInt hq]; omega)) (fun st9 hR9 => ?_)
            refine nk_segH (nk_nil _) (nkd1_g1 v hv36 q hq13) rfl hh hR9 (fun ce hce ρa Ha la lsa sta hXa hRa hFa => ?_) (fun a ha => by cases ha)
            obtain rfl := List.mem_singleton.mp hce
            have ya : ∀ i, i < 12 → ρa i = ρ8 i := fun i hi => (hXa i hi).trans (nkX.push 13 _ _ i (by omega))
            exact rest (Or.inl cU) q ρa Ha la lsa sta hq13 fS (fun i hi => (ya i (by omega)).trans ((y8 i (by omega)).trans (y6' i hi))) ((ya 11 (by decide)).trans ((y8 11 (by decide)).trans d11)) hRa
          · refine nk_hLd hh (show nk_dk (nk_nD nhDa 277 []) 36 = some (.iaload, 1) by decide +kernel) (S := nkd1_X36 v) (x := 11) (o := 5) (rest := []) rfl hR6 ((y6' 5 (by decide)).trans h5) hzU d11 hn30 (by decide) exU (v := (0, 18446744073709551616, 18446744075857035263)) (nk_okI (by omega) (by have := fb_rng xU; omega)) (fun st7 hR7 => ?_)
            refine nk_segH (nk_nil _) (nkd1_e2 v hv36) rfl hh hR7 (fun ce hce ρ8 H8 l8 ls8 st8 hX8 hR8 hF8 => ?_) (fun a ha => by cases ha)
            obtain rfl := List.mem_singleton.mp hce
            have hR8 : nkR (D, nkKds, Γ) y.2.2.1 [] s.heap (nkd1_X45 v) ρ8 H8 l8 ls8 st8 := hR8
            show W p l e R s m args below meth c H8 l8 0 0 _ (F0 m 45 ls8 st8)
            have y8 : ∀ i, i < 12 → ρ8 i = ρ6 i := fun i hi => (hX8 i hi).trans (nkX.push 13 _ _ i (by omega))
            have y8' : ∀ i, i < 11 → ρ8 i = ρ2 i := fun i hi => (y8 i (by omega)).trans (y6' i hi)
            have g11 : ρ8 11 = .int (nI n) := (y8 11 (by decide)).trans d11
            obtain ⟨zV, hzV, -⟩ := nk_cel1 (E := (D, nkKds, Γ)) hR8.1.2.2.2.2.1 kU
            have exV : zV n = .int xU := (el hR8.2.2.2.2.2.2 kU hzV n hn30).fn fU
            refine nk_hLd hh (show nk_dk (nk_nD nhDa 277 []) 45 = some (.iaload, 1) by decide +kernel) (S := nkd1_X45 v) (x := 11) (o := 5) (rest := []) rfl hR8 ((y8' 5 (by decide)).trans h5) hzV g11 hn30 (by decide) exV (v := (0, 18446744073709551616, 18446744075857035263)) (nk_okI (by omega) (by have := fb_rng xU; omega)) (fun st9 hR9 => ?_)
            refine nk_segH (nk_nil _) (nkd1_f v hv36) rfl hh hR9 (fun ce hce ρa Ha la lsa sta hXa hRa hFa => ?_) (fun a ha => by cases ha)
            have ya : ∀ i, i < 12 → ρa i = ρ8 i := fun i hi => (hXa i (by omega)).trans (nkX.push 12 _ _ i hi)
            have ya' : ∀ i, i < 11 → ρa i = ρ2 i := fun i hi => (ya i (by omega)).trans (y8' i hi)
            have a11 : ρa 11 = .int (nI n) := (ya 11 (by decide)).trans g11
            have a12 : ρa 12 = .int xU := (hXa 12 (by decide)).trans (nk_upd 12 _ _)
            rcases List.mem_cons.mp hce with rfl | hce
            · have hRa : nkR (D, nkKds, Γ) y.2.2.1 [] s.heap (nkd1_Y98b v) ρa Ha la lsa sta := hRa
              have q := nk_di2 hRa.1.2.2.1 (a := 12) (b := 2) (c := 18446744073709551616) List.mem_cons_self a12 ((ya' 2 (by decide)).trans g2)
              obtain ⟨hRb, hXb, -, -⟩ := nk_ent_ok (nkd1_eb v hv36) hRa
              exact next _ Ha la lsa sta (fun i hi => (hXb i (by omega)).trans (ya' i hi)) ((hXb 11 (by decide)).trans a11) hRb (Or.inr (Or.inl ⟨xU, fU, by omega, by omega⟩))
            · obtain rfl := List.mem_singleton.mp hce
              have hRa : nkR (D, nkKds, Γ) y.2.2.1 [] s.heap (nkd1_X66b v) ρa Ha la lsa sta := hRa
              show W p l e R s m args below meth c Ha la 0 0 _ (F0 m 66 lsa sta)
              have q0 := nk_di2 hRa.1.2.2.1 (a := 2) (b := 12) (c := 18446744073709551615) List.mem_cons_self ((ya' 2 (by decide)).trans g2) a12
              obtain ⟨zS, hzS, htS⟩ := nk_cel1 (E := (D, nkKds, Γ)) hRa.1.2.2.2.2.1 kS
              obtain ⟨xS, exS, xS1, xS2⟩ := nk_int (htS n hn30)
              obtain ⟨q, hq, eq, fq⟩ := nh_nI (x := xS) (by omega)
              rw [eq] at exS
              have fS : nkFd (D, nkKds, Γ) s.heap bS n (.int (nI q)) := exS ▸ el hRa.2.2.2.2.2.2 kS hzS n hn30
              have hq13 : q < 13 := by omega
              refine nk_hLd hh (show nk_dk (nk_nD nhDa 277 []) 66 = some (.iaload, 1) by decide +kernel) (S := nkd1_X66b v) (x := 11) (o := 7) (rest := [13, 6]) rfl hRa ((ya' 7 (by decide)).trans h7) hzS a11 hn30 (by decide) exS (v := (0, 18446744073709551616 + q, 18446744073709551616 + q)) (nk_okI (by rw [nI_toInt hq]; omega) (by rw [nI_toInt hq]; omega)) (fun stb hRb => ?_)
              refine nk_segH (nk_nil _) (nkd1_g2 v hv36 q hq13) rfl hh hRb (fun ce hce ρc Hc lc lsc stc hXc hRc hFc => ?_) (fun a ha => by cases ha)
              obtain rfl := List.mem_singleton.mp hce
              have yc : ∀ i, i < 12 → ρc i = ρa i := fun i hi => (hXc i hi).trans (nkX.push 14 _ _ i (by omega))
              exact rest (Or.inr (by omega)) q ρc Hc lc lsc stc hq13 fS (fun i hi => (yc i (by omega)).trans (ya' i hi)) ((yc 11 (by decide)).trans a11) hRc
      · obtain rfl := List.mem_singleton.mp ha
        have q := nk_di2 hT4.2.2.1 (a := 10) (b := 11) (c := 18446744073709551616) List.mem_cons_self ((hX4 10 (by decide)).trans ((y3 10 (by decide)).trans h10)) ((hX4 11 (by decide)).trans b11)
        rw [nI_toInt (by omega), nI_toInt (by omega)] at q
        have hr1 : r = some (.int (cond true 1 0)) := by
          obtain ⟨x, ex, x1, x2⟩ := nk_int (hT4.1 12 _ rfl)
          rw [hv.2, ex]
          have : x = 1 := by rw [nk_nI (x := x) (m := 1) (by omega)]; rfl
          rw [this]
          rfl
        exact ret _ 0 _ true ρ4 H4 r t (nkd1_r1 v hv36) (nkd1_s1 v hv36) (fun i hi => (hX4 i (by omega)).trans ((y3 i (by omega)).trans (hX2 i hi))) hT4 hF5 hv ht hr1 ⟨fun _ => ⟨b1, bT, bU, bA, bS, bP, bI, sn, hDF, hx1, fun n' hn' => hall n' (by omega)⟩, fun _ => rfl⟩
  obtain ⟨z1, hz1, hzt1⟩ := nk_cel1 (E := (D, nkKds, Γ)) hR2.1.2.2.2.2.1 k1
  obtain ⟨x1, ex1, x11, x12⟩ := nk_int (hzt1 v hv36)
  have f1 : nkFd (D, nkKds, Γ) s.heap b1 v (.int x1) := ex1 ▸ el hR2.2.2.2.2.2.2 k1 hz1 v hv36
  have hvI : (nI v).toInt = (v : Int) := nI_toInt (by omega)
  have hvc : (nI v).toNatClampNeg = v := nI_clamp (by omega)
  have hld : ∀ tv : nkV, nkOk Γ tv (.int x1) → (∀ st', nkR (D, nkKds, Γ) y.2.2.1 [] s.heap (nk_push (nkd1_X5 v) [] tv) (updV ρ2 11 (.int x1)) H2 l2 ls2 st' → W p l e R s m args below meth c H2 l2 0 0 (MQ below (nkQg (D, nkKds, Γ) [] [nkd1_F v] 3 ρ (fun H _ r _ _ => ∀ (a : Nat) (k : Int32), ρ 0 = .ref a → ρ 2 = .int k → (r = some (.int 1) ↔ nkDF (D, nkKds, Γ) H a v k) ∧ (r = some (.int 1) ∨ r = some (.int 0)))) args s 0 0 (nkA (D, nkKds, Γ))) (F0 m 6 ls2 st')) → W p l e R s m args below meth c H2 l2 0 0 (MQ below (nkQg (D, nkKds, Γ) [] [nkd1_F v] 3 ρ (fun H _ r _ _ => ∀ (a : Nat) (k : Int32), ρ 0 = .ref a → ρ 2 = .int k → (r = some (.int 1) ↔ nkDF (D, nkKds, Γ) H a v k) ∧ (r = some (.int 1) ∨ r = some (.int 0)))) args s 0 0 (nkA (D, nkKds, Γ))) (F0 m 5 ls2 st2) := fun tv hok kk2 => by
    refine nk_hAld hh.2.1.1 (hh.2.1.2.2.1 5 (.baload, 1) (show nk_dk (nk_nD nhDa 277 []) 5 = some (.baload, 1) by decide +kernel)) (show (nkd1_X5 v).2.2.2.1 = 1 :: 3 :: [] from rfl) hR2 (ti := 3) (by decide) h3 hz1 g1 (by omega) (by omega) (v := tv) (by rw [hvc, ex1]; exact hok) (fun st' hR3 => ?_)
    rw [hvc, ex1] at hR3
    exact kk2 st' hR3
  by_cases c1 : x1.toInt = 0
  · refine hld (0, 18446744073709551616, 18446744073709551616) (nk_okI (by omega) (by omega)) (fun st3 hR3 => ?_)
    refine nk_segH (nk_nil _) (nkd1_b0 v hv36) rfl hh hR3 (fun ce hce => by cases hce) (fun a ha ρ4 H4 r t hX4 hT4 hF4 hF5 hv ht => ?_)
    obtain rfl := List.mem_singleton.mp ha
    have hr1 : r = some (.int (cond false 1 0)) := by
      obtain ⟨x, ex, x1, x2⟩ := nk_int (hT4.1 12 _ rfl)
      rw [hv.2, ex]
      have : x = 0 := by rw [nk_nI (x := x) (m := 0) (by omega)]; rfl
      rw [this]
      rfl
    refine ret _ 0 _ false ρ4 H4 r t (nkd1_r0 v hv36) (nkd1_s0 v hv36) (fun i hi => (hX4 i (by omega)).trans ((nkX.push 11 ρ2 _ i (by omega)).trans (hX2 i hi))) hT4 hF5 hv ht hr1 ⟨fun q => (by cases q), fun hdf => ?_⟩
    obtain ⟨d1, dT, dU, dA, dS, dP, dI, dn, hda, ⟨x, q1, q2⟩, -⟩ := hdf
    cases hda.1.fn hDF.1
    cases q1.fn f1
    exact absurd (show x1 = 0 by rw [nk_nI (x := x1) (m := 0) (by omega)]; rfl) q2
  · refine hld (0, 18446744073709551617, 18446744073709551617) (nk_okI (by omega) (by omega)) (fun st3 hR3 => ?_)
    refine nk_segH (nk_nil _) (nkd1_b1 v hv36) rfl hh hR3 (fun ce hce ρ4 H4 l4 ls4 st4 hX4 hR4 hF4 => ?_) (fun a ha => by cases ha)
    obtain rfl := List.mem_singleton.mp hce
    have hR4 : nkR (D, nkKds, Γ) y.2.2.1 [] s.heap (nkd1_L0 v) ρ4 H4 l4 ls4 st4 := hR4
    show W p l e R s m args below meth c H4 l4 0 0 _ (F0 m 13 ls4 st4)
    have v11 : ρ4 11 = .int (nI 0) := by
      obtain ⟨r, er, r1, r2⟩ := nk_int (hR4.1.1 11 _ rfl)
      rw [er, nk_nI (x := r) (m := 0) (by omega)]
    obtain ⟨hR5, hX5, -, -⟩ := nk_ent_ok (nkd1_e0 v hv36) hR4
    exact loop _ 0 _ H4 l4 ls4 st4 rfl (Nat.zero_le _) (fun i hi => (hX5 i hi).trans ((hX4 i hi).trans (nkX.push 11 ρ2 _ i hi))) v11 hR5 ⟨x1, f1, fun q => c1 (by rw [q]; rfl)⟩ (fun n' hn' => absurd hn' (by omega)))

