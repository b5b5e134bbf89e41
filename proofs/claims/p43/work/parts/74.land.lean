/-! land() of the reference, up to bank: printed by h_land.py -/
def nkl0_L (t : Nat) : nkS := (17, [(0, 18446744073709551619, 18446744073709551619), (0, 18446744073709551616, 18446744073709551624), (2, 49, 0), (0, 18446744073709551616, 18446744073709551621), (2, 50, 0), (0, 18446744073709551617, 18446744073709551622), (2, 46, 0), (0, 18446744073709551617, 18446744073709551622), (2, 44, 0), (0, 18446744073709551616 + t, 18446744073709551616 + t), (2, 56, 0), (0, 18446744073709552176, 18446744073709552176 + 278 * (t % 2)), (0, 18446744073709551617, 18446744073709551617), (0, 18446744073709551616, 18446744073709553216), (0, 18446744073709551616, 18446744073709553216), (0, 18446744073709551616, 18446744073709553216), (2, 40, 0)], [(0, 0)], [], [(0, 6, 1), (0, 7, 2), (0, 3, 3), (0, 33, 4), (0, 34, 5), (0, 21, 6), (6, 1, 7), (0, 11, 8), (8, 1, 9), (0, 12, 10), (10, 1, 11), (0, 15, 12), (12, 1, 13), (0, 14, 14), (14, 1, 15), (0, 8, 16)], [(2, 3, 18446744073709551616), (1, 2, 18446744073709551615)], [])
def nkl0_S : nkS := (1, [(2, 40, 0)], [(0, 0)], [], [], [], [])
def nkl0_X : nkS := (6, [(0, 18446744073709551617, 18446744073709551622), (2, 46, 0), (0, 18446744073709551617, 18446744073709551622), (2, 44, 0), (0, 18446744073709551617, 18446744073709551617), (2, 40, 0)], [(0, 0)], [1, 0], [(0, 33, 1), (0, 11, 2), (2, 1, 3), (0, 12, 4), (4, 1, 5)], [], [])
def nkl0_Z : nkS := (2, [(0, 18446744073709551615, 18446744073709551615), (2, 40, 0)], [], [1], [], [], [])
def nkl0_W : nkWs := [(40, 2, 10), (40, 33, 37), (43, 0, 1599), (44, 0, 1), (46, 0, 1), (48, 0, 1), (49, 0, 1), (50, 0, 1), (51, 0, 1), (52, 0, 1), (53, 0, 1), (54, 0, 1), (55, 0, 1), (56, 0, 1), (57, 0, 15), (58, 0, 9), (59, 0, 9), (60, 0, 89), (61, 0, 89), (80, 0, 1119), (81, 0, 1119), (82, 0, 1), (83, 0, 1)]
def nkl0_sp : List (Nat × nkSp) := [(165, [(133, (2, 0), [11, 1]), (133, (2, 0), [12, 1]), (74, (2, 0), [15, 1]), (74, (2, 0), [14, 1]), (74, (2, 0), [21, 1]), (74, (2, 0), [34])])]
def nkl0_rls : List nkIn := [nre_29, nre_30, nre_31, nre_32, nre_33, nre_34, nre_35, nre_36, nre_37, nre_38, nre_39, nre_40, nre_41, nre_42, nre_43, nre_44, nre_45, nre_46, nre_47, nre_48, nre_49, nre_50, nre_51, nre_52, nre_53, nre_54, nre_55, nre_56, nre_57, nre_58, nre_59, nre_60]
theorem nkl0_rlsI : ∀ en ∈ nkl0_rls, nkMetI nkKds en := nk_cons nri_29 (nk_cons nri_30 (nk_cons nri_31 (nk_cons nri_32 (nk_cons nri_33 (nk_cons nri_34 (nk_cons nri_35 (nk_cons nri_36 (nk_cons nri_37 (nk_cons nri_38 (nk_cons nri_39 (nk_cons nri_40 (nk_cons nri_41 (nk_cons nri_42 (nk_cons nri_43 (nk_cons nri_44 (nk_cons nri_45 (nk_cons nri_46 (nk_cons nri_47 (nk_cons nri_48 (nk_cons nri_49 (nk_cons nri_50 (nk_cons nri_51 (nk_cons nri_52 (nk_cons nri_53 (nk_cons nri_54 (nk_cons nri_55 (nk_cons nri_56 (nk_cons nri_57 (nk_cons nri_58 (nk_cons nri_59 (nk_cons nri_60 (nk_nil _))))))))))))))))))))))))))))))))
def nkl0_fs : List nkIn := [nre_0, nre_27, nre_28, nre_61]
theorem nkl0_fsI : ∀ en ∈ nkl0_fs, nkMetI nkKds en := nk_cons nri_0 (nk_cons nri_27 (nk_cons nri_28 (nk_cons nri_61 (nk_nil _))))
def nkl0_IT (t : Nat) : List nkIn := nkl0_fs ++ (nkl0_rls.drop t).take 1
theorem nkl0_ITi (t : Nat) : ∀ en ∈ nkl0_IT t, nkMetI nkKds en := fun en h => (List.mem_append.mp h).elim (nkl0_fsI en) (fun h => nkl0_rlsI en (List.mem_of_mem_drop (List.mem_of_mem_take h)))
def nkl_bits (t : Nat) : List Nat := (List.range 5).filter (fun k => Nat.beq (t / 2 ^ k % 2) 0)
theorem nkl_bit : ∀ t ∈ List.range 32, ∀ k ∈ nkl_bits t, t + 2 ^ k < 32 := by decide +kernel
def nkl0_cx (t : Nat) : List nkCe := (nkl_bits t).map (fun k => (74, nkl0_L (t + 2 ^ k), [(0, 0, 18446744073709551616), (0, 0, 18446744073709551616), (0, 0, 18446744073709551616), (0, 0, 18446744073709551616)])) ++ [(138, nkl0_X, [(0, 0, 18446744073709551616), (0, 0, 18446744073709551616), (0, 0, 18446744073709551616), (0, 0, 18446744073709551616)])]
theorem nkl0_A : nk_sgL nkKds (nkl0_IT 0) nkl0_sp 165 60 3000 nkl0_W [(20, (3, [(0, 18446744073709551616, 18446744073709553216), (0, 18446744073709551616, 18446744073709553216), (2, 40, 0)], [(0, 0), (1, 1)], [], [(0, 3, 2)], [], []), [(0, 0, 18446744073709551618), (1, 1, 18446744073709553217), (0, 0, 18446744073709551616), (0, 0, 18446744073709551616)])] [(74, nkl0_L 0, [(0, 0, 18446744073709551616), (0, 0, 18446744073709551616), (0, 0, 18446744073709551616), (0, 0, 18446744073709551616)]), (138, nkl0_X, [(0, 0, 18446744073709551616), (0, 0, 18446744073709551616), (0, 0, 18446744073709551616), (0, 0, 18446744073709551616)])] 1 [nkl0_Z] 1000 nkl0_S 0 = true := by decide +kernel
def nkl0_K (t : Nat) : Bool := nk_sgL nkKds (nkl0_IT t) nkl0_sp 165 60 3000 nkl0_W [(74, nkl0_L t, [(0, 0, 18446744073709551617), (1, 13, 18446744073709551622), (1, 15, 18446744073709551625), (1, 1, 18446744073709553217)])] (nkl0_cx t) 1 [nkl0_Z] 1000 (nkl0_L t) 74
theorem nkl0_b0 : ∀ j ∈ List.range 4, nkl0_K (0 + j) = true := by decide +kernel
theorem nkl0_b1 : ∀ j ∈ List.range 4, nkl0_K (4 + j) = true := by decide +kernel
theorem nkl0_b2 : ∀ j ∈ List.range 4, nkl0_K (8 + j) = true := by decide +kernel
theorem nkl0_b3 : ∀ j ∈ List.range 4, nkl0_K (12 + j) = true := by decide +kernel
theorem nkl0_b4 : ∀ j ∈ List.range 4, nkl0_K (16 + j) = true := by decide +kernel
theorem nkl0_b5 : ∀ j ∈ List.range 4, nkl0_K (20 + j) = true := by decide +kernel
theorem nkl0_b6 : ∀ j ∈ List.range 4, nkl0_K (24 + j) = true := by decide +kernel
theorem nkl0_b7 : ∀ j ∈ List.range 4, nkl0_K (28 + j) = true := by decide +kernel
theorem nkl0_B (t : Nat) (ht : t < 32) : nkl0_K t = true := by
  have h4 : t % 4 ∈ List.range 4 := List.mem_range.mpr (Nat.mod_lt _ (by decide))
  rcases (show t / 4 = 0 ∨ t / 4 = 1 ∨ t / 4 = 2 ∨ t / 4 = 3 ∨ t / 4 = 4 ∨ t / 4 = 5 ∨ t / 4 = 6 ∨ t / 4 = 7 by omega) with h | h | h | h | h | h | h | h
  · have g := nkl0_b0 (t % 4) h4
    rwa [show 0 + t % 4 = t by omega] at g
  · have g := nkl0_b1 (t % 4) h4
    rwa [show 4 + t % 4 = t by omega] at g
  · have g := nkl0_b2 (t % 4) h4
    rwa [show 8 + t % 4 = t by omega] at g
  · have g := nkl0_b3 (t % 4) h4
    rwa [show 12 + t % 4 = t by omega] at g
  · have g := nkl0_b4 (t % 4) h4
    rwa [show 16 + t % 4 = t by omega] at g
  · have g := nkl0_b5 (t % 4) h4
    rwa [show 20 + t % 4 = t by omega] at g
  · have g := nkl0_b6 (t % 4) h4
    rwa [show 24 + t % 4 = t by omega] at g
  · have g := nkl0_b7 (t % 4) h4
    rwa [show 28 + t % 4 = t by omega] at g
theorem nkl0_run {p : Program} {l : Launch} {e : Env} {R : Room} {s : State} {m : MethodId} {args : Array Value} {below : List Frame} {meth : Method} {c : Code} {cc : ByteArray} {y : nhMth} {D : nhD} {Γ : Nat → Nat} {Ws : nkWs} {Qc : Array Value → State → Outcome → State → Prop} (hh : nkHc2 p R s m args meth c cc (D, nkKds, Γ) nkl0_sp 165 y 60 3000) (hs : nk_sub nkl0_W Ws = true)
    {ρ : Nat → Value} {H : Heap} {locs : List Loc} {ls : Array Slot} {st : List Value} (hR : nkR (D, nkKds, Γ) y.2.2.1 Ws s.heap nkl0_S ρ H locs ls st)
    (k : ∀ (ρ2 : Nat → Value) (H2 : Heap) (locs2 : List Loc) (ls2 : Array Slot) (st2 : List Value), nkX 1 ρ ρ2 → nkR (D, nkKds, Γ) y.2.2.1 Ws s.heap nkl0_X ρ2 H2 locs2 ls2 st2 → W p l e R s m args below meth c H2 locs2 0 0 (MQ below Qc args s 0 0 (nkA (D, nkKds, Γ))) (F0 m 138 ls2 st2))
    (kr : ∀ (ρ2 : Nat → Value) (H2 : Heap) (v : Option Value) (t : State), nkX 1 ρ ρ2 → nkT (D, nkKds, Γ) nkl0_Z ρ2 H2 → nkFr (D, nkKds, Γ) Ws s.heap H2 [] → nkRt nkl0_Z ρ2 v → t.heap = H2 → Qc args s (.returned v) t) :
    W p l e R s m args below meth c H locs 0 0 (MQ below Qc args s 0 0 (nkA (D, nkKds, Γ))) (F0 m 0 ls st) := by
  have hB : ∀ (n t : Nat), 32 - t ≤ n → t < 32 → ∀ (ρ2 : Nat → Value) (H2 : Heap) (locs2 : List Loc) (ls2 : Array Slot) (st2 : List Value), nkX 1 ρ ρ2 → nkR (D, nkKds, Γ) y.2.2.1 Ws s.heap (nkl0_L t) ρ2 H2 locs2 ls2 st2 → W p l e R s m args below meth c H2 locs2 0 0 (MQ below Qc args s 0 0 (nkA (D, nkKds, Γ))) (F0 m 74 ls2 st2) := by
    intro n
    induction n with
    | zero => intro t h1 h2; omega
    | succ n ih =>
      intro t h1 h2 ρ2 H2 l2 ls2 st2 hX hR2
      refine nk_segL (nkl0_ITi t) (nkl0_B t h2) hs hh hR2 (fun ce hce ρ3 H3 l3 ls3 st3 hX3 hR3 _ => ?_) (fun a ha ρ3 H3 v u hX3 hT _ hF hv hu => ?_)
      · rcases List.mem_append.mp hce with hc | hc
        · obtain ⟨k', hk', rfl⟩ := List.mem_map.mp hc
          have g1 := nkl_bit t (List.mem_range.mpr h2) k' hk'
          have g2 := Nat.two_pow_pos k'
          exact ih (t + 2 ^ k') (by omega) g1 ρ3 H3 l3 ls3 st3 (fun i hi => (hX3 i hi).trans (hX i hi)) hR3
        · obtain rfl := List.mem_singleton.mp hc
          exact k ρ3 H3 l3 ls3 st3 (fun i hi => (hX3 i hi).trans (hX i hi)) hR3
      · obtain rfl := List.mem_singleton.mp ha
        exact kr ρ3 H3 v u (fun i hi => (hX3 i hi).trans (hX i hi)) hT hF hv hu
  refine nk_segL (nkl0_ITi 0) nkl0_A hs hh hR (fun ce hce ρ3 H3 l3 ls3 st3 hX3 hR3 _ => ?_) (fun a ha ρ3 H3 v u hX3 hT _ hF hv hu => ?_)
  · rcases List.mem_cons.mp hce with rfl | hc
    · exact hB 32 0 (by decide) (by decide) ρ3 H3 l3 ls3 st3 hX3 hR3
    · obtain rfl := List.mem_singleton.mp hc
      exact k ρ3 H3 l3 ls3 st3 hX3 hR3
  · obtain rfl := List.mem_singleton.mp ha
    exact kr ρ3 H3 v u hX3 hT hF hv hu

