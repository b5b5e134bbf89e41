/-! the law's cases -/
/-- post, by boxes -/
theorem lx_b18 (xs : Nat → Int32) (B : Nat) : ∃ as, ceTwo 14 115 258 cw3 as ∧ as.map (ce_c (fun k => xs (k + 1)) B) = lx_vals xs 1 (List.replicate 2 false) := by
  have a1 := (xs 1).le_toInt
  have a2 := (xs 1).toInt_lt
  have b1 := (xs 2).le_toInt
  have b2 := (xs 2).toInt_lt
  have go : ∀ {n : Nat} {t : List (Nat × Int)} {bx : List (Int × Int)}, ce_tk (ce_two2 ce_no 2000 14 115 258 cw3) n t bx = true → bx.length = 2 → ceIn (fun k => xs (k + 1)) 0 bx → ∃ as, ceTwo 14 115 258 cw3 as ∧ as.map (ce_c (fun k => xs (k + 1)) B) = lx_vals xs 1 (List.replicate 2 false) := fun h1 h2 h3 => lx_ofG (f := ce_two2 ce_no 2000 14 115 258 cw3) (fun _ h => ce_two2_ok ce_no_ok h) (N := 2) (by decide) ⟨_, _, _, h1, h2, h3⟩
  by_cases h1 : (xs 1).toInt < 0
  · exact go ct_18_2 rfl (lx_in2 (by first | omega | (simp only [Nat.zero_add, Nat.reduceAdd]; omega)) (by first | omega | (simp only [Nat.zero_add, Nat.reduceAdd]; omega)) (by first | omega | (simp only [Nat.zero_add, Nat.reduceAdd]; omega)) (by first | omega | (simp only [Nat.zero_add, Nat.reduceAdd]; omega)))
  · by_cases h2 : (xs 1).toInt ≤ 20
    · by_cases h3 : (xs 2).toInt < 0
      · exact go ct_18_4 rfl (lx_in2 (by first | omega | (simp only [Nat.zero_add, Nat.reduceAdd]; omega)) (by first | omega | (simp only [Nat.zero_add, Nat.reduceAdd]; omega)) (by first | omega | (simp only [Nat.zero_add, Nat.reduceAdd]; omega)) (by first | omega | (simp only [Nat.zero_add, Nat.reduceAdd]; omega)))
      · by_cases h4 : (xs 2).toInt ≤ 1
        · exact lx_of2 (N := 2) pp_two (by decide) rfl (lx_in2 (by first | omega | (simp only [Nat.zero_add, Nat.reduceAdd]; omega)) (by first | omega | (simp only [Nat.zero_add, Nat.reduceAdd]; omega)) (by first | omega | (simp only [Nat.zero_add, Nat.reduceAdd]; omega)) (by first | omega | (simp only [Nat.zero_add, Nat.reduceAdd]; omega))) (by decide)
        · exact go ct_18_5 rfl (lx_in2 (by first | omega | (simp only [Nat.zero_add, Nat.reduceAdd]; omega)) (by first | omega | (simp only [Nat.zero_add, Nat.reduceAdd]; omega)) (by first | omega | (simp only [Nat.zero_add, Nat.reduceAdd]; omega)) (by first | omega | (simp only [Nat.zero_add, Nat.reduceAdd]; omega)))
    · exact go ct_18_3 rfl (lx_in2 (by first | omega | (simp only [Nat.zero_add, Nat.reduceAdd]; omega)) (by first | omega | (simp only [Nat.zero_add, Nat.reduceAdd]; omega)) (by first | omega | (simp only [Nat.zero_add, Nat.reduceAdd]; omega)) (by first | omega | (simp only [Nat.zero_add, Nat.reduceAdd]; omega)))
/-- hedge, by boxes -/
theorem lx_b9 (ρ : Nat → Int32) : ∃ (n : Nat) (t : List (Nat × Int)) (bx : List (Int × Int)), ce_tk (ce_two 2500 14 87 231 cw3) n t bx = true ∧ bx.length = 1 ∧ ceIn ρ 0 bx := by
  have a1 := (ρ 0).le_toInt
  have a2 := (ρ 0).toInt_lt
  by_cases h1 : (ρ 0).toInt < 0
  · exact ⟨_, _, _, ct_9_0, rfl, lx_in1 (by omega) (by omega)⟩
  · by_cases h2 : (ρ 0).toInt < 12
    · exact ⟨_, _, _, ct_9_1, rfl, lx_in1 (by omega) (by omega)⟩
    · by_cases h3 : (ρ 0).toInt < 24
      · exact ⟨_, _, _, ct_9_2, rfl, lx_in1 (by omega) (by omega)⟩
      · by_cases h4 : (ρ 0).toInt < 36
        · exact ⟨_, _, _, ct_9_3, rfl, lx_in1 (by omega) (by omega)⟩
        · exact ⟨_, _, _, ct_9_4, rfl, lx_in1 (by omega) (by omega)⟩
theorem lx_k0 : lx_caseB 240 13 17 8 284 [false, false, false, false, false] = true := by decide +kernel
theorem lx_c0 (xs : Nat → Int32) (B : Nat) : ∃ as, ceTwo 14 8 284 cw3 as ∧ as.map (ce_c (fun k => xs (k + 1)) B) = lx_vals xs 1 [false, false, false, false, false] := lx_of (fun _ h => ce_two_ok h) (N := 5) (by decide) ct_0
theorem lx_k1 : lx_caseB 303 18 22 10 285 [false] = true := by decide +kernel
theorem lx_c1 (xs : Nat → Int32) (B : Nat) : ∃ as, ceTwo 14 10 285 cw3 as ∧ as.map (ce_c (fun k => xs (k + 1)) B) = lx_vals xs 1 [false] := lx_of (fun _ h => ce_two_ok h) (N := 1) (by decide) ct_1
theorem lx_k2 : lx_caseB 326 23 27 11 165 [] = true := by decide +kernel
theorem lx_c2 (xs : Nat → Int32) (B : Nat) : ∃ as, ceTwo 14 11 165 cw3 as ∧ as.map (ce_c (fun k => xs (k + 1)) B) = lx_vals xs 1 [] := lx_of (fun _ h => ce_two_ok h) (N := 0) (by decide) ct_2
theorem lx_k3 : lx_caseB 339 28 31 49 197 [false] = true := by decide +kernel
theorem lx_c3 (xs : Nat → Int32) (B : Nat) : ∃ as, ceTwo 14 49 197 cw3 as ∧ as.map (ce_c (fun k => xs (k + 1)) B) = lx_vals xs 1 [false] := lx_of (fun _ h => ce_two_ok h) (N := 1) (by decide) ct_3
theorem lx_k4 : lx_caseB 362 32 36 50 198 [false, false] = true := by decide +kernel
theorem lx_c4 (xs : Nat → Int32) (B : Nat) : ∃ as, ceTwo 14 50 198 cw3 as ∧ as.map (ce_c (fun k => xs (k + 1)) B) = lx_vals xs 1 [false, false] := lx_of (fun _ h => ce_two_ok h) (N := 2) (by decide) ct_4
theorem lx_k5 : lx_caseB 395 37 40 60 206 [false, false] = true := by decide +kernel
theorem lx_c5 (xs : Nat → Int32) (B : Nat) : ∃ as, ceTwo 14 60 206 cw3 as ∧ as.map (ce_c (fun k => xs (k + 1)) B) = lx_vals xs 1 [false, false] := lx_of (fun _ h => ce_two_ok h) (N := 2) (by decide) ct_5
theorem lx_k6 : lx_caseB 428 41 45 76 223 [true] = true := by decide +kernel
theorem lx_c6 (xs : Nat → Int32) (B : Nat) : ∃ as, ceTwo 14 76 223 cw3 as ∧ as.map (ce_c (fun k => xs (k + 1)) B) = lx_vals xs 1 [true] := lx_ofB (fun _ h => ce_two_ok h) (N := 0) (by decide) ct_6_0 ct_6_1
theorem lx_k7 : lx_caseB 467 46 49 85 229 [false] = true := by decide +kernel
theorem lx_c7 (xs : Nat → Int32) (B : Nat) : ∃ as, ceTwo 14 85 229 cw3 as ∧ as.map (ce_c (fun k => xs (k + 1)) B) = lx_vals xs 1 [false] := lx_of (fun _ h => ce_two_ok h) (N := 1) (by decide) ct_7
theorem lx_k8 : lx_caseB 490 50 53 86 230 [] = true := by decide +kernel
theorem lx_c8 (xs : Nat → Int32) (B : Nat) : ∃ as, ceTwo 14 86 230 cw3 as ∧ as.map (ce_c (fun k => xs (k + 1)) B) = lx_vals xs 1 [] := lx_of (fun _ h => ce_two_ok h) (N := 0) (by decide) ct_8
theorem lx_k9 : lx_caseB 503 54 57 87 231 [false] = true := by decide +kernel
theorem lx_c9 (xs : Nat → Int32) (B : Nat) : ∃ as, ceTwo 14 87 231 cw3 as ∧ as.map (ce_c (fun k => xs (k + 1)) B) = lx_vals xs 1 [false] := lx_ofG (f := ce_two 2500 14 87 231 cw3) (fun _ h => ce_two_ok h) (N := 1) (by decide) (lx_b9 _)
theorem lx_k10 : lx_caseB 526 58 61 89 234 [false] = true := by decide +kernel
theorem lx_c10 (xs : Nat → Int32) (B : Nat) : ∃ as, ceTwo 14 89 234 cw3 as ∧ as.map (ce_c (fun k => xs (k + 1)) B) = lx_vals xs 1 [false] := lx_of (fun _ h => ce_two_ok h) (N := 1) (by decide) ct_10
theorem lx_k11 : lx_caseB 549 62 66 90 235 [] = true := by decide +kernel
theorem lx_c11 (xs : Nat → Int32) (B : Nat) : ∃ as, ceTwo 14 90 235 cw3 as ∧ as.map (ce_c (fun k => xs (k + 1)) B) = lx_vals xs 1 [] := lx_of (fun _ h => ce_two_ok h) (N := 0) (by decide) ct_11
theorem lx_k12 : lx_caseB 562 67 70 92 237 [] = true := by decide +kernel
theorem lx_c12 (xs : Nat → Int32) (B : Nat) : ∃ as, ceTwo 14 92 237 cw3 as ∧ as.map (ce_c (fun k => xs (k + 1)) B) = lx_vals xs 1 [] := lx_of (fun _ h => ce_two_ok h) (N := 0) (by decide) ct_12
theorem lx_k13 : lx_caseB 575 71 75 96 239 [false, false, false] = true := by decide +kernel
theorem lx_c13 (xs : Nat → Int32) (B : Nat) : ∃ as, ceTwo 14 96 239 cw3 as ∧ as.map (ce_c (fun k => xs (k + 1)) B) = lx_vals xs 1 [false, false, false] := lx_of (fun _ h => ce_two_ok h) (N := 3) (by decide) ct_13
theorem lx_k14 : lx_caseB 618 76 79 99 244 [false] = true := by decide +kernel
theorem lx_c14 (xs : Nat → Int32) (B : Nat) : ∃ as, ceTwo 14 99 244 cw3 as ∧ as.map (ce_c (fun k => xs (k + 1)) B) = lx_vals xs 1 [false] := lx_of (fun _ h => ce_two_ok h) (N := 1) (by decide) ct_14
theorem lx_k15 : lx_caseB 641 80 83 100 245 [false, false] = true := by decide +kernel
theorem lx_c15 (xs : Nat → Int32) (B : Nat) : ∃ as, ceTwo 14 100 245 cw3 as ∧ as.map (ce_c (fun k => xs (k + 1)) B) = lx_vals xs 1 [false, false] := lx_of (fun _ h => ce_two_ok h) (N := 2) (by decide) ct_15
theorem lx_k16 : lx_caseB 674 84 87 102 255 [false, false] = true := by decide +kernel
theorem lx_c16 (xs : Nat → Int32) (B : Nat) : ∃ as, ceTwo 14 102 255 cw3 as ∧ as.map (ce_c (fun k => xs (k + 1)) B) = lx_vals xs 1 [false, false] := lx_of (fun _ h => ce_two_ok h) (N := 2) (by decide) ct_16
theorem lx_k17 : lx_caseB 707 88 91 107 256 [false, false, false] = true := by decide +kernel
theorem lx_c17 (xs : Nat → Int32) (B : Nat) : ∃ as, ceTwo 14 107 256 cw3 as ∧ as.map (ce_c (fun k => xs (k + 1)) B) = lx_vals xs 1 [false, false, false] := lx_of (fun _ h => ce_two_ok h) (N := 3) (by decide) ct_17
theorem lx_k18 : lx_caseB 750 92 95 115 258 [false, false] = true := by decide +kernel
theorem lx_c18 (xs : Nat → Int32) (B : Nat) : ∃ as, ceTwo 14 115 258 cw3 as ∧ as.map (ce_c (fun k => xs (k + 1)) B) = lx_vals xs 1 [false, false] := lx_b18 xs B
theorem lx_k19 : lx_caseB 783 96 99 127 260 [false] = true := by decide +kernel
theorem lx_c19 (xs : Nat → Int32) (B : Nat) : ∃ as, ceTwo 14 127 260 cw3 as ∧ as.map (ce_c (fun k => xs (k + 1)) B) = lx_vals xs 1 [false] := lx_of (fun _ h => ce_two2_ok ce_mem_ok h) (N := 1) (by decide) ct_19
theorem lx_k20 : lx_caseB 806 100 103 135 265 [false, false, false] = true := by decide +kernel
theorem lx_c20 (xs : Nat → Int32) (B : Nat) : ∃ as, ceTwo 14 135 265 cw3 as ∧ as.map (ce_c (fun k => xs (k + 1)) B) = lx_vals xs 1 [false, false, false] := lx_of (fun _ h => ce_two_ok h) (N := 3) (by decide) ct_20
theorem lx_k21 : lx_caseB 849 104 107 132 263 [] = true := by decide +kernel
theorem lx_c21 (xs : Nat → Int32) (B : Nat) : ∃ as, ceTwo 14 132 263 cw3 as ∧ as.map (ce_c (fun k => xs (k + 1)) B) = lx_vals xs 1 [] := lx_of (fun _ h => ce_two2_ok ce_mem_ok h) (N := 0) (by decide) ct_21
theorem lx_k22 : lx_caseB 862 108 111 118 251 [false] = true := by decide +kernel
theorem lx_c22 (xs : Nat → Int32) (B : Nat) : ∃ as, ceTwo 14 118 251 cw3 as ∧ as.map (ce_c (fun k => xs (k + 1)) B) = lx_vals xs 1 [false] := lx_of (fun _ h => ce_two_ok h) (N := 1) (by decide) ct_22
theorem lx_k23 : lx_caseB 885 112 115 124 250 [false, false] = true := by decide +kernel
theorem lx_c23 (xs : Nat → Int32) (B : Nat) : ∃ as, ceTwo 14 124 250 cw3 as ∧ as.map (ce_c (fun k => xs (k + 1)) B) = lx_vals xs 1 [false, false] := lx_of (fun _ h => ce_two_ok h) (N := 2) (by decide) ct_23
theorem lx_k24 : lx_caseB 918 116 119 134 218 [false] = true := by decide +kernel
theorem lx_c24 (xs : Nat → Int32) (B : Nat) : ∃ as, ceTwo 14 134 218 cw3 as ∧ as.map (ce_c (fun k => xs (k + 1)) B) = lx_vals xs 1 [false] := lx_of (fun _ h => ce_two_ok h) (N := 1) (by decide) ct_24
theorem lx_k25 : lx_caseB 941 120 123 123 254 [false] = true := by decide +kernel
theorem lx_c25 (xs : Nat → Int32) (B : Nat) : ∃ as, ceTwo 14 123 254 cw3 as ∧ as.map (ce_c (fun k => xs (k + 1)) B) = lx_vals xs 1 [false] := lx_of (fun _ h => ce_two_ok h) (N := 1) (by decide) ct_25
theorem lx_k26 : lx_caseB 964 124 127 133 264 [] = true := by decide +kernel
theorem lx_c26 (xs : Nat → Int32) (B : Nat) : ∃ as, ceTwo 14 133 264 cw3 as ∧ as.map (ce_c (fun k => xs (k + 1)) B) = lx_vals xs 1 [] := lx_of (fun _ h => ce_two_ok h) (N := 0) (by decide) ct_26
theorem lx_k27 : lx_caseB 977 128 131 138 221 [false] = true := by decide +kernel
theorem lx_c27 (xs : Nat → Int32) (B : Nat) : ∃ as, ceTwo 14 138 221 cw3 as ∧ as.map (ce_c (fun k => xs (k + 1)) B) = lx_vals xs 1 [false] := lx_of (fun _ h => ce_two_ok h) (N := 1) (by decide) ct_27
theorem lx_k28 : lx_caseB 1000 132 135 117 259 [false, false] = true := by decide +kernel
theorem lx_c28 (xs : Nat → Int32) (B : Nat) : ∃ as, ceTwo 14 117 259 cw3 as ∧ as.map (ce_c (fun k => xs (k + 1)) B) = lx_vals xs 1 [false, false] := lx_of (fun _ h => ce_two2_ok ce_no_ok h) (N := 2) (by decide) ct_28
theorem lx_k29 : lx_caseB 1033 136 139 68 211 [] = true := by decide +kernel
theorem lx_c29 (xs : Nat → Int32) (B : Nat) : ∃ as, ceTwo 14 68 211 cw3 as ∧ as.map (ce_c (fun k => xs (k + 1)) B) = lx_vals xs 1 [] := lx_of (fun _ h => ce_two_ok h) (N := 0) (by decide) ct_29
theorem lx_k30 : lx_caseB 1046 140 143 71 215 [] = true := by decide +kernel
theorem lx_c30 (xs : Nat → Int32) (B : Nat) : ∃ as, ceTwo 14 71 215 cw3 as ∧ as.map (ce_c (fun k => xs (k + 1)) B) = lx_vals xs 1 [] := lx_of (fun _ h => ce_two_ok h) (N := 0) (by decide) ct_30
theorem lx_k31 : lx_caseB 1059 144 148 125 246 [false, true] = true := by decide +kernel
theorem lx_c31 (xs : Nat → Int32) (B : Nat) : ∃ as, ceTwo 14 125 246 cw3 as ∧ as.map (ce_c (fun k => xs (k + 1)) B) = lx_vals xs 1 [false, true] := lx_ofB (fun _ h => ce_two2_ok ce_no_ok h) (N := 1) (by decide) ct_31_0 ct_31_1
theorem lx_k32 : lx_caseB 1108 149 152 73 217 [] = true := by decide +kernel
theorem lx_c32 (xs : Nat → Int32) (B : Nat) : ∃ as, ceTwo 14 73 217 cw3 as ∧ as.map (ce_c (fun k => xs (k + 1)) B) = lx_vals xs 1 [] := lx_of (fun _ h => ce_two_ok h) (N := 0) (by decide) ct_32
theorem lx_k33 : lx_caseB 1121 153 156 126 248 [false] = true := by decide +kernel
theorem lx_c33 (xs : Nat → Int32) (B : Nat) : ∃ as, ceTwo 14 126 248 cw3 as ∧ as.map (ce_c (fun k => xs (k + 1)) B) = lx_vals xs 1 [false] := lx_of (fun _ h => ce_two2_ok ce_no_ok h) (N := 1) (by decide) ct_33
theorem lx_k34 : lx_caseB 1144 157 160 141 220 [false] = true := by decide +kernel
theorem lx_c34 (xs : Nat → Int32) (B : Nat) : ∃ as, ceTwo 14 141 220 cw3 as ∧ as.map (ce_c (fun k => xs (k + 1)) B) = lx_vals xs 1 [false] := lx_of (fun _ h => ce_two_ok h) (N := 1) (by decide) ct_34
theorem lx_k35 : lx_caseB 1167 161 164 70 213 [false] = true := by decide +kernel
theorem lx_c35 (xs : Nat → Int32) (B : Nat) : ∃ as, ceTwo 14 70 213 cw3 as ∧ as.map (ce_c (fun k => xs (k + 1)) B) = lx_vals xs 1 [false] := lx_of (fun _ h => ce_two_ok h) (N := 1) (by decide) ct_35
theorem lx_k36 : lx_caseB 1190 165 168 131 262 [] = true := by decide +kernel
theorem lx_c36 (xs : Nat → Int32) (B : Nat) : ∃ as, ceTwo 14 131 262 cw3 as ∧ as.map (ce_c (fun k => xs (k + 1)) B) = lx_vals xs 1 [] := lx_of (fun _ h => ce_two2_ok ce_mem_ok h) (N := 0) (by decide) ct_36
theorem lx_k37 : lx_caseB 1203 169 172 74 269 [false, false] = true := by decide +kernel
theorem lx_c37 (xs : Nat → Int32) (B : Nat) : ∃ as, ceTwo 14 74 269 cw3 as ∧ as.map (ce_c (fun k => xs (k + 1)) B) = lx_vals xs 1 [false, false] := lx_of (fun _ h => ce_two_ok h) (N := 2) (by decide) ct_37
theorem lx_k38 : lx_caseB 1236 173 176 67 238 [false] = true := by decide +kernel
theorem lx_c38 (xs : Nat → Int32) (B : Nat) : ∃ as, ceTwo 14 67 238 cw3 as ∧ as.map (ce_c (fun k => xs (k + 1)) B) = lx_vals xs 1 [false] := lx_of (fun _ h => ce_two_ok h) (N := 1) (by decide) ct_38
theorem lx_k39 : lx_caseB 1259 177 181 142 272 [false, false, true] = true := by decide +kernel
theorem lx_c39 (xs : Nat → Int32) (B : Nat) : ∃ as, ceTwo 14 142 272 cw3 as ∧ as.map (ce_c (fun k => xs (k + 1)) B) = lx_vals xs 1 [false, false, true] := lx_ofB (fun _ h => ce_two_ok h) (N := 2) (by decide) ct_39_0 ct_39_1
theorem lx_k40 : lx_caseB 1318 182 186 144 273 [false] = true := by decide +kernel
theorem lx_c40 (xs : Nat → Int32) (B : Nat) : ∃ as, ceTwo 14 144 273 cw3 as ∧ as.map (ce_c (fun k => xs (k + 1)) B) = lx_vals xs 1 [false] := lx_of (fun _ h => ce_two_ok h) (N := 1) (by decide) ct_40
theorem lx_k41 : lx_caseB 1341 187 190 146 274 [false] = true := by decide +kernel
theorem lx_c41 (xs : Nat → Int32) (B : Nat) : ∃ as, ceTwo 14 146 274 cw3 as ∧ as.map (ce_c (fun k => xs (k + 1)) B) = lx_vals xs 1 [false] := lx_of (fun _ h => ce_two_ok h) (N := 1) (by decide) ct_41
theorem lx_k42 : lx_caseB 1364 191 194 147 275 [false] = true := by decide +kernel
theorem lx_c42 (xs : Nat → Int32) (B : Nat) : ∃ as, ceTwo 14 147 275 cw3 as ∧ as.map (ce_c (fun k => xs (k + 1)) B) = lx_vals xs 1 [false] := lx_of (fun _ h => ce_two_ok h) (N := 1) (by decide) ct_42
theorem lx_k43 : lx_caseB 1387 195 198 153 278 [false, false] = true := by decide +kernel
theorem lx_c43 (xs : Nat → Int32) (B : Nat) : ∃ as, ceTwo 14 153 278 cw3 as ∧ as.map (ce_c (fun k => xs (k + 1)) B) = lx_vals xs 1 [false, false] := lx_of (fun _ h => ce_two_ok h) (N := 2) (by decide) ct_43
theorem lx_k44 : lx_caseB 1420 199 202 158 279 [false, false] = true := by decide +kernel
theorem lx_c44 (xs : Nat → Int32) (B : Nat) : ∃ as, ceTwo 14 158 279 cw3 as ∧ as.map (ce_c (fun k => xs (k + 1)) B) = lx_vals xs 1 [false, false] := lx_of (fun _ h => ce_two_ok h) (N := 2) (by decide) ct_44
theorem lx_k45 : lx_caseB 1453 203 206 94 281 [false] = true := by decide +kernel
theorem lx_c45 (xs : Nat → Int32) (B : Nat) : ∃ as, ceTwo 14 94 281 cw3 as ∧ as.map (ce_c (fun k => xs (k + 1)) B) = lx_vals xs 1 [false] := lx_of (fun _ h => ce_two_ok h) (N := 1) (by decide) ct_45
theorem lx_k46 : lx_caseB 1476 207 210 95 282 [false] = true := by decide +kernel
theorem lx_c46 (xs : Nat → Int32) (B : Nat) : ∃ as, ceTwo 14 95 282 cw3 as ∧ as.map (ce_c (fun k => xs (k + 1)) B) = lx_vals xs 1 [false] := lx_of (fun _ h => ce_two_ok h) (N := 1) (by decide) ct_46
theorem lx_k47 : lx_caseB 1499 211 214 64 283 [false] = true := by decide +kernel
theorem lx_c47 (xs : Nat → Int32) (B : Nat) : ∃ as, ceTwo 14 64 283 cw3 as ∧ as.map (ce_c (fun k => xs (k + 1)) B) = lx_vals xs 1 [false] := lx_of (fun _ h => ce_two_ok h) (N := 1) (by decide) ct_47
section LX2
variable {p : Program} {l : Launch} {e : Env} {s : State} {m : MethodId} {below : List Frame} {meth : Method} {c : Code} {b : Nat} {xs : Nat → Int32} {D : nhD} {H : Heap} {locs : List Loc} {ls : Array Slot}
theorem lx_all (hC : lx_In p s m meth c b xs D ls) (hH : lx_Hp D xs s cw3 H locs) (n : Nat) (hn : n < 48) : W p l e room_1 s m #[Value.ref b] below meth c H locs 600000 7302250 (lw_Z below #[Value.ref b] s) (F0 m (lx_tg.getD n 0) ls []) := by
  match n, hn with
  | 0, _ => exact lx_case hC hH (ds := [false, false, false, false, false]) (by decide) lx_k0 (lx_c0 xs _)
  | 1, _ => exact lx_case hC hH (ds := [false]) (by decide) lx_k1 (lx_c1 xs _)
  | 2, _ => exact lx_case hC hH (ds := []) (by decide) lx_k2 (lx_c2 xs _)
  | 3, _ => exact lx_case hC hH (ds := [false]) (by decide) lx_k3 (lx_c3 xs _)
  | 4, _ => exact lx_case hC hH (ds := [false, false]) (by decide) lx_k4 (lx_c4 xs _)
  | 5, _ => exact lx_case hC hH (ds := [false, false]) (by decide) lx_k5 (lx_c5 xs _)
  | 6, _ => exact lx_case hC hH (ds := [true]) (by decide) lx_k6 (lx_c6 xs _)
  | 7, _ => exact lx_case hC hH (ds := [false]) (by decide) lx_k7 (lx_c7 xs _)
  | 8, _ => exact lx_case hC hH (ds := []) (by decide) lx_k8 (lx_c8 xs _)
  | 9, _ => exact lx_case hC hH (ds := [false]) (by decide) lx_k9 (lx_c9 xs _)
  | 10, _ => exact lx_case hC hH (ds := [false]) (by decide) lx_k10 (lx_c10 xs _)
  | 11, _ => exact lx_case hC hH (ds := []) (by decide) lx_k11 (lx_c11 xs _)
  | 12, _ => exact lx_case hC hH (ds := []) (by decide) lx_k12 (lx_c12 xs _)
  | 13, _ => exact lx_case hC hH (ds := [false, false, false]) (by decide) lx_k13 (lx_c13 xs _)
  | 14, _ => exact lx_case hC hH (ds := [false]) (by decide) lx_k14 (lx_c14 xs _)
  | 15, _ => exact lx_case hC hH (ds := [false, false]) (by decide) lx_k15 (lx_c15 xs _)
  | 16, _ => exact lx_case hC hH (ds := [false, false]) (by decide) lx_k16 (lx_c16 xs _)
  | 17, _ => exact lx_case hC hH (ds := [false, false, false]) (by decide) lx_k17 (lx_c17 xs _)
  | 18, _ => exact lx_case hC hH (ds := [false, false]) (by decide) lx_k18 (lx_c18 xs _)
  | 19, _ => exact lx_case hC hH (ds := [false]) (by decide) lx_k19 (lx_c19 xs _)
  | 20, _ => exact lx_case hC hH (ds := [false, false, false]) (by decide) lx_k20 (lx_c20 xs _)
  | 21, _ => exact lx_case hC hH (ds := []) (by decide) lx_k21 (lx_c21 xs _)
  | 22, _ => exact lx_case hC hH (ds := [false]) (by decide) lx_k22 (lx_c22 xs _)
  | 23, _ => exact lx_case hC hH (ds := [false, false]) (by decide) lx_k23 (lx_c23 xs _)
  | 24, _ => exact lx_case hC hH (ds := [false]) (by decide) lx_k24 (lx_c24 xs _)
  | 25, _ => exact lx_case hC hH (ds := [false]) (by decide) lx_k25 (lx_c25 xs _)
  | 26, _ => exact lx_case hC hH (ds := []) (by decide) lx_k26 (lx_c26 xs _)
  | 27, _ => exact lx_case hC hH (ds := [false]) (by decide) lx_k27 (lx_c27 xs _)
  | 28, _ => exact lx_case hC hH (ds := [false, false]) (by decide) lx_k28 (lx_c28 xs _)
  | 29, _ => exact lx_case hC hH (ds := []) (by decide) lx_k29 (lx_c29 xs _)
  | 30, _ => exact lx_case hC hH (ds := []) (by decide) lx_k30 (lx_c30 xs _)
  | 31, _ => exact lx_case hC hH (ds := [false, true]) (by decide) lx_k31 (lx_c31 xs _)
  | 32, _ => exact lx_case hC hH (ds := []) (by decide) lx_k32 (lx_c32 xs _)
  | 33, _ => exact lx_case hC hH (ds := [false]) (by decide) lx_k33 (lx_c33 xs _)
  | 34, _ => exact lx_case hC hH (ds := [false]) (by decide) lx_k34 (lx_c34 xs _)
  | 35, _ => exact lx_case hC hH (ds := [false]) (by decide) lx_k35 (lx_c35 xs _)
  | 36, _ => exact lx_case hC hH (ds := []) (by decide) lx_k36 (lx_c36 xs _)
  | 37, _ => exact lx_case hC hH (ds := [false, false]) (by decide) lx_k37 (lx_c37 xs _)
  | 38, _ => exact lx_case hC hH (ds := [false]) (by decide) lx_k38 (lx_c38 xs _)
  | 39, _ => exact lx_case hC hH (ds := [false, false, true]) (by decide) lx_k39 (lx_c39 xs _)
  | 40, _ => exact lx_case hC hH (ds := [false]) (by decide) lx_k40 (lx_c40 xs _)
  | 41, _ => exact lx_case hC hH (ds := [false]) (by decide) lx_k41 (lx_c41 xs _)
  | 42, _ => exact lx_case hC hH (ds := [false]) (by decide) lx_k42 (lx_c42 xs _)
  | 43, _ => exact lx_case hC hH (ds := [false, false]) (by decide) lx_k43 (lx_c43 xs _)
  | 44, _ => exact lx_case hC hH (ds := [false, false]) (by decide) lx_k44 (lx_c44 xs _)
  | 45, _ => exact lx_case hC hH (ds := [false]) (by decide) lx_k45 (lx_c45 xs _)
  | 46, _ => exact lx_case hC hH (ds := [false]) (by decide) lx_k46 (lx_c46 xs _)
  | 47, _ => exact lx_case hC hH (ds := [false]) (by decide) lx_k47 (lx_c47 xs _)
  | n + 48, h => exact absurd h (by omega)
end LX2
