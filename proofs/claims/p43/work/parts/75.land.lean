/-! land() of the reference, up to bank: printed by h_land.py -/
def nkl1_L (t : Nat) : nkS := (17, [(0, 18446744073709551619, 18446744073709551619), (0, 18446744073709551616, 18446744073709551624), (2, 49, 0), (0, 18446744073709551616, 18446744073709551621), (2, 50, 0), (0, 18446744073709551617, 18446744073709551622), (2, 47, 0), (0, 18446744073709551617, 18446744073709551622), (2, 45, 0), (0, 18446744073709551616 + t, 18446744073709551616 + t), (2, 56, 0), (0, 18446744073709551616, 18446744073709551616 + 278 * (t % 2)), (0, 18446744073709551616, 18446744073709551616), (0, 18446744073709551616, 18446744073709553216), (0, 18446744073709551616, 18446744073709553216), (0, 18446744073709551616, 18446744073709553216), (2, 41, 0)], [(0, 0)], [], [(0, 6, 1), (0, 7, 2), (0, 3, 3), (0, 33, 4), (0, 34, 5), (0, 21, 6), (6, 0, 7), (0, 11, 8), (8, 0, 9), (0, 12, 10), (10, 0, 11), (0, 15, 12), (12, 0, 13), (0, 14, 14), (14, 0, 15), (0, 8, 16)], [(2, 3, 18446744073709551616), (1, 2, 18446744073709551615)], [])
def nkl1_S : nkS := (1, [(2, 41, 0)], [(0, 0)], [], [], [], [])
def nkl1_X : nkS := (6, [(0, 18446744073709551617, 18446744073709551622), (2, 47, 0), (0, 18446744073709551617, 18446744073709551622), (2, 45, 0), (0, 18446744073709551616, 18446744073709551616), (2, 41, 0)], [(0, 0)], [1, 0], [(0, 33, 1), (0, 11, 2), (2, 0, 3), (0, 12, 4), (4, 0, 5)], [], [])
def nkl1_Z : nkS := (2, [(0, 18446744073709551615, 18446744073709551615), (2, 41, 0)], [], [1], [], [], [])
def nkl1_W : nkWs := [(41, 2, 10), (41, 33, 37), (43, 0, 1599), (45, 0, 1), (47, 0, 1), (48, 0, 1), (49, 0, 1), (50, 0, 1), (51, 0, 1), (52, 0, 1), (53, 0, 1), (54, 0, 1), (55, 0, 1), (56, 0, 1), (57, 0, 15), (58, 0, 9), (59, 0, 9), (60, 0, 89), (61, 0, 89), (80, 0, 1119), (81, 0, 1119), (82, 0, 1), (83, 0, 1)]
def nkl1_sp : List (Nat × nkSp) := [(165, [(133, (2, 0), [11, 0]), (133, (2, 0), [12, 0]), (74, (2, 0), [15, 0]), (74, (2, 0), [14, 0]), (74, (2, 0), [21, 0]), (74, (2, 0), [34])])]
def nkl1_rls : List nkIn := [nre_91, nre_92, nre_93, nre_94, nre_95, nre_96, nre_97, nre_98, nre_99, nre_100, nre_101, nre_102, nre_103, nre_104, nre_105, nre_106, nre_107, nre_108, nre_109, nre_110, nre_111, nre_112, nre_113, nre_114, nre_115, nre_116, nre_117, nre_118, nre_119, nre_120, nre_121, nre_122]
theorem nkl1_rlsI : ∀ en ∈ nkl1_rls, nkMetI nkKds en := nk_cons nri_91 (nk_cons nri_92 (nk_cons nri_93 (nk_cons nri_94 (nk_cons nri_95 (nk_cons nri_96 (nk_cons nri_97 (nk_cons nri_98 (nk_cons nri_99 (nk_cons nri_100 (nk_cons nri_101 (nk_cons nri_102 (nk_cons nri_103 (nk_cons nri_104 (nk_cons nri_105 (nk_cons nri_106 (nk_cons nri_107 (nk_cons nri_108 (nk_cons nri_109 (nk_cons nri_110 (nk_cons nri_111 (nk_cons nri_112 (nk_cons nri_113 (nk_cons nri_114 (nk_cons nri_115 (nk_cons nri_116 (nk_cons nri_117 (nk_cons nri_118 (nk_cons nri_119 (nk_cons nri_120 (nk_cons nri_121 (nk_cons nri_122 (nk_nil _))))))))))))))))))))))))))))))))
def nkl1_fs : List nkIn := [nre_62, nre_89, nre_90, nre_123]
theorem nkl1_fsI : ∀ en ∈ nkl1_fs, nkMetI nkKds en := nk_cons nri_62 (nk_cons nri_89 (nk_cons nri_90 (nk_cons nri_123 (nk_nil _))))
def nkl1_IT (t : Nat) : List nkIn := nkl1_fs ++ (nkl1_rls.drop t).take 1
theorem nkl1_ITi (t : Nat) : ∀ en ∈ nkl1_IT t, nkMetI nkKds en := fun en h => (List.mem_append.mp h).elim (nkl1_fsI en) (fun h => nkl1_rlsI en (List.mem_of_mem_drop (List.mem_of_mem_take h)))
def nkl1_cx (t : Nat) : List nkCe := (nkl_bits t).map (fun k => (74, nkl1_L (t + 2 ^ k), [(0, 0, 18446744073709551616), (0, 0, 18446744073709551616), (0, 0, 18446744073709551616), (0, 0, 18446744073709551616)])) ++ [(138, nkl1_X, [(0, 0, 18446744073709551616), (0, 0, 18446744073709551616), (0, 0, 18446744073709551616), (0, 0, 18446744073709551616)])]
theorem nkl1_A : nk_sgL nkKds (nkl1_IT 0) nkl1_sp 165 60 3000 nkl1_W [(20, (3, [(0, 18446744073709551616, 18446744073709553216), (0, 18446744073709551616, 18446744073709553216), (2, 41, 0)], [(0, 0), (1, 1)], [], [(0, 3, 2)], [], []), [(0, 0, 18446744073709551618), (1, 1, 18446744073709553217), (0, 0, 18446744073709551616), (0, 0, 18446744073709551616)])] [(74, nkl1_L 0, [(0, 0, 18446744073709551616), (0, 0, 18446744073709551616), (0, 0, 18446744073709551616), (0, 0, 18446744073709551616)]), (138, nkl1_X, [(0, 0, 18446744073709551616), (0, 0, 18446744073709551616), (0, 0, 18446744073709551616), (0, 0, 18446744073709551616)])] 1 [nkl1_Z] 1000 nkl1_S 0 = true := by decide +kernel
def nkl1_K (t : Nat) : Bool := nk_sgL nkKds (nkl1_IT t) nkl1_sp 165 60 3000 nkl1_W [(74, nkl1_L t, [(0, 0, 18446744073709551617), (1, 13, 18446744073709551622), (1, 15, 18446744073709551625), (1, 1, 18446744073709553217)])] (nkl1_cx t) 1 [nkl1_Z] 1000 (nkl1_L t) 74
theorem nkl1_b0 : ∀ j ∈ List.range 4, nkl1_K (0 + j) = true := by decide +kernel
theorem nkl1_b1 : ∀ j ∈ List.range 4, nkl1_K (4 + j) = true := by decide +kernel
theorem nkl1_b2 : ∀ j ∈ List.range 4, nkl1_K (8 + j) = true := by decide +kernel
theorem nkl1_b3 : ∀ j ∈ List.range 4, nkl1_K (12 + j) = true := by decide +kernel
theorem nkl1_b4 : ∀ j ∈ List.range 4, nkl1_K (16 + j) = true := by decide +kernel
theorem nkl1_b5 : ∀ j ∈ List.range 4, nkl1_K (20 + j) = true := by decide +kernel
theorem nkl1_b6 : ∀ j ∈ List.range 4, nkl1_K (24 + j) = true := by decide +kernel
theorem nkl1_b7 : ∀ j ∈ List.range 4, nkl1_K (28 + j) = true := by decide +kernel
theorem nkl1_B (t : Nat) (ht : t < 32) : nkl1_K t = true := by
  have h4 : t % 4 ∈ List.range 4 := List.mem_range.mpr (Nat.mod_lt _ (by decide))
  rcases (show t / 4 = 0 ∨ t / 4 = 1 ∨ t / 4 = 2 ∨ t / 4 = 3 ∨ t / 4 = 4 ∨ t / 4 = 5 ∨ t / 4 = 6 ∨ t / 4 = 7 by omega) with h | h | h | h | h | h | h | h
  · have g := nkl1_b0 (t % 4) h4
    rwa [show 0 + t % 4 = t by omega] at g
  · have g := nkl1_b1 (t % 4) h4
    rwa [show 4 + t % 4 = t by omega] at g
  · have g := nkl1_b2 (t % 4) h4
    rwa [show 8 + t % 4 = t by omega] at g
  · have g := nkl1_b3 (t % 4) h4
    rwa [show 12 + t % 4 = t by omega] at g
  · have g := nkl1_b4 (t % 4) h4
    rwa [show 16 + t % 4 = t by omega] at g
  · have g := nkl1_b5 (t % 4) h4
    rwa [show 20 + t % 4 = t by omega] at g
  · have g := nkl1_b6 (t % 4) h4
    rwa [show 24 + t % 4 = t by omega] at g
  · have g := nkl1_b7 (t % 4) h4
    rwa [show 28 + t % 4 = t by omega] at g
theorem nkl1_run {p : Program} {l : Launch} {e : Env} {R : Room} {s : State} {m : MethodId} {args : Array Value} {below : List Frame} {meth : Method} {c : Code} {cc : ByteArray} {y : nhMth} {D : nhD} {Γ : Nat → Nat} {Ws : nkWs} {Qc : Array Value → State → Outcome → State → Prop} (hh : nkHc2 p R s m args meth c cc (D, nkKds, Γ) nkl1_sp 165 y 60 3000) (hs : nk_sub nkl1_W Ws = true)
    {ρ : Nat → Value} {H : Heap} {locs : List Loc} {ls : Array Slot} {st : List Value} (hR : nkR (D, nkKds, Γ) y.2.2.1 Ws s.heap nkl1_S ρ H locs ls st)
    (k : ∀ (ρ2 : Nat → Value) (H2 : Heap) (locs2 : List Loc) (ls2 : Array Slot) (st2 : List Value), nkX 1 ρ ρ2 → nkR (D, nkKds, Γ) y.2.2.1 Ws s.heap nkl1_X ρ2 H2 locs2 ls2 st2 → W p l e R s m args below meth c H2 locs2 0 0 (MQ below Qc args s 0 0 (nkA (D, nkKds, Γ))) (F0 m 138 ls2 st2))
    (kr : ∀ (ρ2 : Nat → Value) (H2 : Heap) (v : Option Value) (t : State), nkX 1 ρ ρ2 → nkT (D, nkKds, Γ) nkl1_Z ρ2 H2 → nkFr (D, nkKds, Γ) Ws s.heap H2 [] → nkRt nkl1_Z ρ2 v → t.heap = H2 → Qc args s (.returned v) t) :
    W p l e R s m args below meth c H locs 0 0 (MQ below Qc args s 0 0 (nkA (D, nkKds, Γ))) (F0 m 0 ls st) := by
  have hB : ∀ (n t : Nat), 32 - t ≤ n → t < 32 → ∀ (ρ2 : Nat → Value) (H2 : Heap) (locs2 : List Loc) (ls2 : Array Slot) (st2 : List Value), nkX 1 ρ ρ2 → nkR (D, nkKds, Γ) y.2.2.1 Ws s.heap (nkl1_L t) ρ2 H2 locs2 ls2 st2 → W p l e R s m args below meth c H2 locs2 0 0 (MQ below Qc args s 0 0 (nkA (D, nkKds, Γ))) (F0 m 74 ls2 st2) := by
    intro n
    induction n with
    | zero => intro t h1 h2; omega
    | succ n ih =>
      intro t h1 h2 ρ2 H2 l2 ls2 st2 hX hR2
      refine nk_segL (nkl1_ITi t) (nkl1_B t h2) hs hh hR2 (fun ce hce ρ3 H3 l3 ls3 st3 hX3 hR3 _ => ?_) (fun a ha ρ3 H3 v u hX3 hT _ hF hv hu => ?_)
      · rcases List.mem_append.mp hce with hc | hc
        · obtain ⟨k', hk', rfl⟩ := List.mem_map.mp hc
          have g1 := nkl_bit t (List.mem_range.mpr h2) k' hk'
          have g2 := Nat.two_pow_pos k'
          exact ih (t + 2 ^ k') (by omega) g1 ρ3 H3 l3 ls3 st3 (fun i hi => (hX3 i hi).trans (hX i hi)) hR3
        · obtain rfl := List.mem_singleton.mp hc
          exact k ρ3 H3 l3 ls3 st3 (fun i hi => (hX3 i hi).trans (hX i hi)) hR3
      · obtain rfl := List.mem_singleton.mp ha
        exact kr ρ3 H3 v u (fun i hi => (hX3 i hi).trans (hX i hi)) hT hF hv hu
  refine nk_segL (nkl1_ITi 0) nkl1_A hs hh hR (fun ce hce ρ3 H3 l3 ls3 st3 hX3 hR3 _ => ?_) (fun a ha ρ3 H3 v u hX3 hT _ hF hv hu => ?_)
  · rcases List.mem_cons.mp hce with rfl | hc
    · exact hB 32 0 (by decide) (by decide) ρ3 H3 l3 ls3 st3 hX3 hR3
    · obtain rfl := List.mem_singleton.mp hc
      exact k ρ3 H3 l3 ls3 st3 hX3 hR3
  · obtain rfl := List.mem_singleton.mp ha
    exact kr ρ3 H3 v u hX3 hT hF hv hu

