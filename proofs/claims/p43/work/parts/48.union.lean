/-! a contract out of those at each value of a variable; checks in pieces -/
def nk_enS (en : nkIn) (j : Nat) (v : nkV) : nkIn := (en.1, en.2.1, en.2.2.1, en.2.2.2.1, nk_set en.2.2.2.2.1 j v, en.2.2.2.2.2.1, en.2.2.2.2.2.2)
def nk_shB (en : nkIn) : Bool := Nat.beq en.2.2.2.2.1.2.1.length en.2.2.2.2.1.1 && (en.2.2.2.2.1.2.2.2.2.2.2.isEmpty && nk_altB en.2.2.2.2.1.1 en.2.2.2.2.2.2)
theorem nk_union {kd : List nkKd} {en : nkIn} {j lo hi : Nat} (hj : nk_g en.2.2.2.2.1.2.1 en.2.2.2.2.1.1 j = some (0, lo, hi)) (hs : nk_shB en = true) (h : ∀ a, lo ≤ a → a ≤ hi → nkMetI kd (nk_enS en j (0, a, a))) : nkMetI kd en := by
  unfold nk_shB at hs
  simp only [Bool.and_eq_true] at hs
  refine ⟨fun y hy l D Γ ρ => ?_, Nat.eq_of_beq_eq_true hs.1, List.isEmpty_iff.mp hs.2.1, nk_altB_ok hs.2.2⟩
  intro p e h1 h2 h3 s m args below h4 h5 hP hK
  obtain ⟨hA, hT, hK1, hZ⟩ := hP
  obtain ⟨x, ex, x1, x2⟩ := nk_int (hT.1 j _ hj)
  obtain ⟨a, ea⟩ : ∃ a : Nat, (a : Int) = x.toInt + 18446744073709551616 := ⟨(x.toInt + 18446744073709551616).toNat, by have := fb_rng x; omega⟩
  have hM := (h a (by omega) (by omega)).1 y hy l D Γ ρ
  refine hM p e h1 h2 h3 s m args below h4 h5 ⟨hA, ⟨fun i v hi => ?_, hT.2.1, hT.2.2.1, hT.2.2.2.1, hT.2.2.2.2⟩, hK1, hZ⟩ hK
  rcases nk_g_u hi with ⟨rfl, rfl⟩ | hi
  · rw [ex]
    exact nk_okI (by omega) (by omega)
  · exact hT.1 i v hi
def nk_allU (kd : List nkKd) (IT : List nkIn) (spt : List (Nat × nkSp)) (en : nkIn) (j fuel : Nat) : Nat → List (List nkCe) → Bool
  | _, [] => true
  | lo, cs :: r => match nk_chk kd IT spt (nk_enS en j (0, lo, lo)) cs fuel with
    | true => nk_allU kd IT spt en j fuel (lo + 1) r
    | false => false
theorem nk_allU_ok {kd : List nkKd} {IT : List nkIn} (hIT : ∀ en ∈ IT, nkMetI kd en) {spt : List (Nat × nkSp)} {en : nkIn} {j fuel : Nat} : ∀ {L : List (List nkCe)} {lo : Nat}, nk_allU kd IT spt en j fuel lo L = true → ∀ a, lo ≤ a → a < lo + L.length → nkMetI kd (nk_enS en j (0, a, a))
  | [], lo, _, a, h1, h2 => absurd h2 (by rw [List.length_nil]; omega)
  | cs :: r, lo, h, a, h1, h2 => by
    unfold nk_allU at h
    split at h
    · rename_i hc
      by_cases e : a = lo
      · subst e
        exact nk_sound hIT hc
      · rw [List.length_cons] at h2
        exact nk_allU_ok hIT h a (by omega) (by omega)
    · cases h
def nk_chk0 (kd : List nkKd) (IT : List nkIn) (spt : List (Nat × nkSp)) (en : nkIn) (ces : List nkCe) (fuel : Nat) : Bool := match nk_nth nhMt en.1 with
  | some y => match nk_lo0 en.2.2.2.2.1 0 (List.range en.2.2.2.1) with
    | some lo0 => match Nat.ble (nk_wid en.2.2.2.2.1 (List.range en.2.2.2.1)) y.2.2.1 && (Nat.beq en.2.2.2.2.1.2.1.length en.2.2.2.2.1.1 && (en.2.2.2.2.1.2.2.2.2.2.2.isEmpty && nk_altB en.2.2.2.2.1.1 en.2.2.2.2.2.2)) with
      | true => match nk_all kd (ces, en.2.2.2.2.1.1, none) (nk_spt spt en.1) (fun pc S => nk_run kd IT spt fuel (nk_md spt en.1 y) (ces, en.2.2.2.2.1.1, none) en.2.1 en.2.2.1 en.2.2.2.2.2.1 S pc) [((en.2.2.2.2.1.1, en.2.2.2.2.1.2.1, lo0, [], en.2.2.2.2.1.2.2.2.2), 0)] with
        | some L => nk_fins en.2.2.2.2.1.1 en.2.2.2.2.2.2 L
        | none => false
      | false => false
    | none => false
  | none => false
def nk_chP (kd : List nkKd) (IT : List nkIn) (spt : List (Nat × nkSp)) (en : nkIn) (ces : List nkCe) (fuel : Nat) (l : List nkCe) : Bool := match nk_nth nhMt en.1 with
  | some y => nk_chC kd IT spt en (nk_md spt en.1 y) ces fuel l
  | none => false
theorem nk_chC_app {kd : List nkKd} {IT : List nkIn} {spt : List (Nat × nkSp)} {en : nkIn} {M : nkMd} {ces : List nkCe} {fuel : Nat} {l2 : List nkCe} (h2 : nk_chC kd IT spt en M ces fuel l2 = true) (l1 : List nkCe) : nk_chC kd IT spt en M ces fuel l1 = true → nk_chC kd IT spt en M ces fuel (l1 ++ l2) = true := by
  induction l1 with
  | nil => intro _; exact h2
  | cons ce r ih =>
    intro h
    rw [List.cons_append]
    unfold nk_chC at h ⊢
    split at h
    · exact ih h
    · cases h
theorem nk_chP_app {kd : List nkKd} {IT : List nkIn} {spt : List (Nat × nkSp)} {en : nkIn} {ces : List nkCe} {fuel : Nat} {l1 l2 : List nkCe} (h1 : nk_chP kd IT spt en ces fuel l1 = true) (h2 : nk_chP kd IT spt en ces fuel l2 = true) : nk_chP kd IT spt en ces fuel (l1 ++ l2) = true := by
  unfold nk_chP at h1 h2 ⊢
  split at h1
  · rename_i y hy
    rw [hy] at h2
    exact nk_chC_app h2 l1 h1
  · cases h1
theorem nk_chk_of {kd : List nkKd} {IT : List nkIn} {spt : List (Nat × nkSp)} {en : nkIn} {ces : List nkCe} {fuel : Nat} (h0 : nk_chk0 kd IT spt en ces fuel = true) (h1 : nk_chP kd IT spt en ces fuel ces = true) : nk_chk kd IT spt en ces fuel = true := by
  unfold nk_chk0 at h0
  unfold nk_chP at h1
  unfold nk_chk
  split at h0
  · rename_i y hy
    try rw [hy] at h1
    try rw [hy]
    try dsimp only at h1
    try dsimp only
    split at h0
    · rename_i lo0 hlo
      try rw [hlo]
      try dsimp only
      split at h0
      · rename_i hc
        try rw [hc]
        try dsimp only
        split at h0
        · rename_i L hL
          try rw [hL]
          try dsimp only
          try rw [h0]
          exact h1
        · cases h0
      · cases h0
    · cases h0
  · cases h0
