/-! the change of bank: kinds 40 and 41, 44 and 45, 46 and 47 in exchange; printed by h_mode.py -/
def nkKdS : List nkKd := [nkKds_0, nkKds_1, nkKds_2, nkKds_3, nkKds_4, nkKds_5, nkKds_6, nkKds_7, nkKds_8, nkKds_9, nkKds_10, nkKds_11, nkKds_12, nkKds_13, nkKds_14, nkKds_15, nkKds_16, nkKds_17, nkKds_18, nkKds_19, nkKds_20, nkKds_21, nkKds_22, nkKds_23, nkKds_24, nkKds_25, nkKds_26, nkKds_27, nkKds_28, nkKds_29, nkKds_30, nkKds_31, nkKds_32, nkKds_33, nkKds_34, nkKds_35, nkKds_36, nkKds_37, nkKds_38, nkKds_39, nkKds_41, nkKds_40, nkKds_42, nkKds_43, nkKds_45, nkKds_44, nkKds_47, nkKds_46, nkKds_48, nkKds_49, nkKds_50, nkKds_51, nkKds_52, nkKds_53, nkKds_54, nkKds_55, nkKds_56, nkKds_57, nkKds_58, nkKds_59, nkKds_60, nkKds_61, nkKds_62, nkKds_63, nkKds_64, nkKds_65, nkKds_66, nkKds_67, nkKds_68, nkKds_69, nkKds_70, nkKds_71, nkKds_72, nkKds_73, nkKds_74, nkKds_75, nkKds_76, nkKds_77, nkKds_78, nkKds_79, nkKds_80, nkKds_81, nkKds_82, nkKds_83]
def nkSw (k : Nat) : Nat := if k = 40 then 41 else if k = 41 then 40 else if k = 44 then 45 else if k = 45 then 44 else if k = 46 then 47 else if k = 47 then 46 else k
theorem nkSw_84 (k : Nat) : 84 ≤ nkSw k ↔ 84 ≤ k := by
  unfold nkSw
  repeat' split
  all_goals omega
theorem nkSw_id {k : Nat} (h : k ≠ 40 ∧ k ≠ 41 ∧ k ≠ 44 ∧ k ≠ 45 ∧ k ≠ 46 ∧ k ≠ 47) : nkSw k = k := by
  unfold nkSw
  repeat' split
  all_goals omega
theorem nkSw_of {k n : Nat} (h : nkSw k = n) (hn : n ≠ 40 ∧ n ≠ 41 ∧ n ≠ 44 ∧ n ≠ 45 ∧ n ≠ 46 ∧ n ≠ 47) : k = n := by
  unfold nkSw at h
  repeat' split at h
  all_goals omega
theorem nkSw_inj {a b : Nat} (h : nkSw a = nkSw b) : a = b := by
  have h2 : ∀ k, nkSw (nkSw k) = k := fun k => by
    by_cases e : k ≠ 40 ∧ k ≠ 41 ∧ k ≠ 44 ∧ k ≠ 45 ∧ k ≠ 46 ∧ k ≠ 47
    · rw [nkSw_id e, nkSw_id e]
    · rcases (show k = 40 ∨ k = 41 ∨ k = 44 ∨ k = 45 ∨ k = 46 ∨ k = 47 by omega) with rfl | rfl | rfl | rfl | rfl | rfl <;> rfl
  rw [← h2 a, h, h2 b]
theorem nkSw_rng {k : Nat} (h : 40 ≤ nkSw k) (h2 : nkSw k < 84) : 40 ≤ k ∧ k < 84 := by
  unfold nkSw at h h2
  constructor
  · repeat' split at h
    all_goals omega
  · repeat' split at h2
    all_goals omega
def nkSwV (v : nkV) : nkV := match v.1 with
  | 2 => (2, nkSw v.2.1, v.2.2)
  | 3 => (3, nkSw v.2.1, v.2.2)
  | _ => v
theorem nk_okSw {Γ : Nat → Nat} {v : nkV} {x : Value} (h : nkOk Γ v x) : nkOk (fun a => nkSw (Γ a)) (nkSwV v) x := by
  obtain ⟨t, a, b⟩ := v
  match t, h with
  | 0, h => exact h
  | 1, h => exact h
  | 2, h =>
    obtain ⟨q, e, g⟩ := h
    exact ⟨q, e, congrArg nkSw g⟩
  | 3, h =>
    rcases h with h | ⟨q, e, g⟩
    · exact Or.inl h
    · exact Or.inr ⟨q, e, congrArg nkSw g⟩
  | 4, h => exact h
  | 5, h => exact h
  | n + 6, h => exact h
theorem nk_swl : nkKds.length = 84 ∧ nkKdS.length = 84 := ⟨rfl, rfl⟩
theorem nk_swS : nkKdS = (((((nkKds.set 40 nkKds_41).set 41 nkKds_40).set 44 nkKds_45).set 45 nkKds_44).set 46 nkKds_47).set 47 nkKds_46 := rfl
theorem nk_swg (g : Nat) : nkKds[nkSw g]? = nkKdS[g]? := by
  by_cases e : g ≠ 40 ∧ g ≠ 41 ∧ g ≠ 44 ∧ g ≠ 45 ∧ g ≠ 46 ∧ g ≠ 47
  · rw [nkSw_id e, nk_swS, List.getElem?_set_ne (Ne.symm e.2.2.2.2.2), List.getElem?_set_ne (Ne.symm e.2.2.2.2.1), List.getElem?_set_ne (Ne.symm e.2.2.2.1), List.getElem?_set_ne (Ne.symm e.2.2.1), List.getElem?_set_ne (Ne.symm e.2.1), List.getElem?_set_ne (Ne.symm e.1)]
  · rcases (show g = 40 ∨ g = 41 ∨ g = 44 ∨ g = 45 ∨ g = 46 ∨ g = 47 by omega) with rfl | rfl | rfl | rfl | rfl | rfl <;> rfl
def nkSwW (Ws : nkWs) : nkWs := Ws.map (fun w => (nkSw w.1, w.2))
theorem nk_swo (g f : Nat) : ∀ Ws : nkWs, nk_off (nkSwW Ws) (nkSw g) f = nk_off Ws g f
  | [] => rfl
  | w :: r => by
    have ih := nk_swo g f r
    have hb : nk_cov (nkSw w.1, w.2) (nkSw g) f = nk_cov w g f := by
      unfold nk_cov
      dsimp only
      have : Nat.beq (nkSw w.1) (nkSw g) = Nat.beq w.1 g := by
        by_cases e : w.1 = g
        · rw [e, Nat.beq_refl, Nat.beq_refl]
        · rw [Bool.eq_false_iff.mpr (fun h => e (Nat.eq_of_beq_eq_true h)), Bool.eq_false_iff.mpr (fun h => e (nkSw_inj (Nat.eq_of_beq_eq_true h)))]
      rw [this]
    show nk_off ((nkSw w.1, w.2) :: nkSwW r) (nkSw g) f = nk_off (w :: r) g f
    unfold nk_off
    rw [hb, ih]
theorem nkMe.md {D : nhD} {Γ : Nat → Nat} {n : Nat} {ρ : Nat → Value} {H : Heap} {me : List nkMm} (h : nkMe (D, nkKdS, Γ) n ρ H me) : nkMe (D, nkKds, fun a => nkSw (Γ a)) n ρ H me := fun q hq => by
  obtain ⟨h1, h2, a, k, cell, e1, e2, e3, e4, e5⟩ := h q hq
  exact ⟨h1, h2, a, k, cell, e1, (nk_swg (Γ a)).trans e2, e3, e4, e5⟩
theorem nkKp.md {D : nhD} {Γ : Nat → Nat} {Ws : nkWs} {H0 H : Heap} (h : nkKp (D, nkKdS, Γ) Ws H0 H) : nkKp (D, nkKds, fun a => nkSw (Γ a)) (nkSwW Ws) H0 H := fun a k f cell x q1 q2 q3 q4 q5 =>
  h a k f cell x ((nk_swg (Γ a)).symm.trans q1) q2 ((nk_swo (Γ a) f Ws).symm.trans q3) q4 q5
theorem nkFr.md {D : nhD} {Γ : Nat → Nat} {Ws : nkWs} {H0 H : Heap} {locs : List Loc} (h : nkFr (D, nkKdS, Γ) Ws H0 H locs) : nkFr (D, nkKds, fun a => nkSw (Γ a)) (nkSwW Ws) H0 H locs :=
  ⟨h.1, fun q hq => h.2.1 q ((nkSw_84 (Γ q)).mp hq), fun q hq => by
    have := h.2.2.1 q hq
    have : Γ q.base < 84 := this
    show nkSw (Γ q.base) < 84
    have h2 := nkSw_84 (Γ q.base)
    omega, h.2.2.2.md⟩
theorem nkA.md {D : nhD} {Γ : Nat → Nat} : nkA (D, nkKds, fun a => nkSw (Γ a)) = nkA (D, nkKds, Γ) := funext fun q => propext (by
  show nkSw (Γ q) < 84 ↔ Γ q < 84
  have h2 := nkSw_84 (Γ q)
  omega)
theorem nkZ.md {D : nhD} {Γ : Nat → Nat} {U : State} (h : nkZ (D, nkKds, Γ) U) : nkZ (D, nkKds, fun a => nkSw (Γ a)) U := by
  obtain ⟨adK, adV, h1, h2, h3, h4, h5⟩ := h
  refine ⟨adK, adV, by rw [nkA.md]; exact h1, h2, fun i hi => ?_, fun a i hi ha => h4 a i hi ?_, by rw [nkA.md]; exact h5⟩
  · have g : Γ (adK i) = 84 + 1 + i := h3 i hi
    show nkSw (Γ (adK i)) = 84 + 1 + i
    rw [g, nkSw_id (by omega)]
  · have ha : nkSw (Γ a) = 84 + 1 + i := ha
    exact nkSw_of (n := 84 + 1 + i) ha (by omega)
theorem nkHc2.md {D : nhD} {Γ : Nat → Nat} {p : Program} {R : Room} {s : State} {m : MethodId} {args : Array Value} {meth : Method} {c : Code} {cc : ByteArray} {spt : List (Nat × nkSp)} {mn : Nat} {y : nhMth} {fr lo : Nat} (h : nkHc2 p R s m args meth c cc (D, nkKds, Γ) spt mn y fr lo) : nkHc2 p R s m args meth c cc (D, nkKds, fun a => nkSw (Γ a)) spt mn y fr lo := by
  obtain ⟨h1, ⟨g1, g2, g3⟩, h3⟩ := h
  exact ⟨h1, ⟨g1, g2.md, g3⟩, h3⟩
theorem nkJ.md {D : nhD} {Γ : Nat → Nat} {H : Heap} {kd : List nkKd} (hj : nk_jf kd = true) (h : nkJ (D, kd, Γ) H) : nkJ (D, nkKds, fun a => nkSw (Γ a)) H := fun _ => by
  obtain ⟨h1, h2⟩ := h hj
  have h1 : nkUq Γ := h1
  refine ⟨fun a a' e l1 l2 => ?_, fun ac af at' e1 e2 e3 => h2 ac af at' (nkSw_of e1 (by decide)) (nkSw_of e2 (by decide)) (nkSw_of e3 (by decide))⟩
  have r := nkSw_rng l1 l2
  exact h1 a a' (nkSw_inj e) r.1 r.2
theorem nk_swd {els : List nkV} (h : ∀ v ∈ els, nkSwV v = v) (i : Nat) : nkSwV (els.getD i (8, 0, 0)) = els.getD i (8, 0, 0) := by
  rw [List.getD_eq_getElem?_getD]
  cases e : els[i]? with
  | none => rfl
  | some v => exact h v (List.mem_of_getElem? e)
theorem nkCell.md {D : nhD} {Γ : Nat → Nat} {k : nkKd} {a : Nat} {H : Heap} (hk : ∀ v ∈ k.2.2.2.2, nkSwV v = v) (h : nkCell D Γ k a H) : nkCell D (fun a => nkSw (Γ a)) k a H := by
  obtain ⟨t, ci, N, P, els⟩ := k
  have hk : ∀ v ∈ els, nkSwV v = v := hk
  match t, h with
  | 0, h =>
    obtain ⟨V, h1, h2⟩ := h
    refine ⟨V, h1, fun j hj => ?_⟩
    have g := nk_okSw (h2 j hj)
    have e : nkSwV (nk_ty (0, ci, N, P, els) j) = nk_ty (0, ci, N, P, els) j := nk_swd hk j
    rw [e] at g
    exact g
  | 1, h =>
    obtain ⟨V, h1, h2⟩ := h
    refine ⟨V, h1, fun j hj => ?_⟩
    have g := nk_okSw (h2 j hj)
    have e : nkSwV (nk_ty (1, ci, N, P, els) j) = nk_ty (1, ci, N, P, els) j := nk_swd hk (j % P)
    rw [e] at g
    exact g
  | n + 2, h => exact h.elim
def nk_spc (g : Nat) : Bool := Nat.beq g 40 || (Nat.beq g 41 || (Nat.beq g 44 || (Nat.beq g 45 || (Nat.beq g 46 || Nat.beq g 47))))
theorem nk_swt : ∀ g ∈ List.range 84, nk_spc g = false → ∀ v ∈ (nkKds.getD g (0, 0, 0, 0, [])).2.2.2.2, nkSwV v = v := by decide +kernel
theorem nk_swG {Γ : Nat → Nat} {n : Nat} {vs : List nkV} {ρ : Nat → Value} (h : nkAll Γ n vs ρ) (hg : ∀ i, nk_g (vs.map nkSwV) n i = (nk_g vs n i).map nkSwV) : nkAll (fun a => nkSw (Γ a)) n (vs.map nkSwV) ρ := fun i v hi => by
  rw [hg i] at hi
  cases e : nk_g vs n i with
  | none => rw [e] at hi; cases hi
  | some w =>
    rw [e] at hi
    cases hi
    exact nk_okSw (h i w e)
def nkb0_m : nkKd := (0, 12, 64, 0, [(2, 42, 0), (2, 43, 0), (0, 18446744073709551616, 18446744073709553216), (0, 18446744073709551616, 18446744073709553216), (0, 18446744073709551616, 18446744073709551620), (0, 18446744071562067968, 18446744075857035263), (0, 18446744073709551616, 18446744073709553216), (0, 18446744073709551616, 18446744073709553217), (0, 18446744073709551616, 18446744073709551621), (0, 18446744071562067968, 18446744075857035263), (1, 9223372036854775808, 27670116110564327423), (2, 44, 0), (2, 46, 0), (2, 48, 0), (2, 49, 0), (2, 50, 0), (2, 51, 0), (2, 52, 0), (2, 53, 0), (2, 54, 0), (2, 55, 0), (2, 56, 0), (2, 57, 0), (2, 58, 0), (2, 82, 0), (2, 83, 0), (2, 59, 0), (2, 80, 0), (2, 81, 0), (2, 60, 0), (2, 61, 0), (2, 62, 0), (0, 18446744073709551616, 18446744073709551617), (0, 18446744073709551616, 18446744073709551617), (0, 18446744073709551616, 18446744073709552736), (0, 18446744071562067968, 18446744075857035263), (0, 18446744073709551616, 18446744073709551706), (0, 18446744071562067968, 18446744075857035263), (0, 18446744073709551616, 18446744073709551620), (2, 63, 0), (0, 18446744073709551615, 18446744073709551651), (2, 64, 0), (0, 18446744071562067968, 18446744075857035263), (2, 65, 0), (0, 18446744073709551616, 18446744073709551656), (0, 18446744073709551616, 18446744073709551656), (2, 66, 0), (2, 67, 0), (2, 68, 0), (0, 18446744073709551616, 18446744073709551626), (2, 69, 0), (0, 18446744071562067968, 18446744075857035263), (2, 70, 0), (2, 71, 0), (2, 72, 0), (2, 73, 0), (2, 74, 0), (2, 75, 0), (2, 76, 0), (2, 77, 0), (0, 18446744073709551616, 18446744073709551646), (0, 18446744071562067968, 18446744075857035263), (2, 78, 0), (2, 79, 0)])
def nkb0_a : nkKd := (1, 0, 2, 2, [(0, 18446744073709551616, 18446744073709551622), (0, 18446744073709551616, 18446744073709551622)])
def nkb0_kd : List nkKd := [nkKds_0, nkKds_1, nkKds_2, nkKds_3, nkKds_4, nkKds_5, nkKds_6, nkKds_7, nkKds_8, nkKds_9, nkKds_10, nkKds_11, nkKds_12, nkKds_13, nkKds_14, nkKds_15, nkKds_16, nkKds_17, nkKds_18, nkKds_19, nkKds_20, nkKds_21, nkKds_22, nkKds_23, nkKds_24, nkKds_25, nkKds_26, nkKds_27, nkKds_28, nkKds_29, nkKds_30, nkKds_31, nkKds_32, nkKds_33, nkKds_34, nkKds_35, nkKds_36, nkKds_37, nkKds_38, nkKds_39, nkb0_m, nkKds_41, nkKds_42, nkKds_43, nkb0_a, nkKds_45, nkb0_a, nkKds_47, nkKds_48, nkKds_49, nkKds_50, nkKds_51, nkKds_52, nkKds_53, nkKds_54, nkKds_55, nkKds_56, nkKds_57, nkKds_58, nkKds_59, nkKds_60, nkKds_61, nkKds_62, nkKds_63, nkKds_64, nkKds_65, nkKds_66, nkKds_67, nkKds_68, nkKds_69, nkKds_70, nkKds_71, nkKds_72, nkKds_73, nkKds_74, nkKds_75, nkKds_76, nkKds_77, nkKds_78, nkKds_79, nkKds_80, nkKds_81, nkKds_82, nkKds_83]
theorem nkb0_s1 : nk_simB nkKds nkb0_kd = true := by decide +kernel
theorem nkb0_s2 : nk_simB nkb0_kd nkKds = true := by decide +kernel
theorem nkb0_s3 : nk_simB nkb0_kd nkKdS = true := by decide +kernel
theorem nkb0_s4 : nk_simB nkKdS nkb0_kd = true := by decide +kernel
theorem nkb0_t1 : ∀ j, j < 64 → nk_le (nk_ty nkKds_40 j) (nk_ty nkb0_m j) = true := by decide +kernel
theorem nkb0_t2 : ∀ j, j < 2 → nk_le (nk_ty nkKds_44 j) (nk_ty nkb0_a j) = true := by decide +kernel
theorem nkb0_t3 : ∀ j, j < 2 → nk_le (nk_ty nkKds_46 j) (nk_ty nkb0_a j) = true := by decide +kernel
theorem nkb0_t4 : ∀ j, j < 64 → j ≠ 32 → nk_ty nkKds_41 j = nkSwV (nk_ty nkb0_m j) := by decide +kernel
theorem nkb0_set : nkb0_kd = ((nkKds.set 40 nkb0_m).set 44 nkb0_a).set 46 nkb0_a := rfl
/-- the table that leaves the bank open -/
theorem nkb0_up {D : nhD} {Γ : Nat → Nat} {H : Heap} (h : nkH (D, nkKds, Γ) H) : nkH (D, nkb0_kd, Γ) H := by
  have h1 : nkHc (D, nkKds.set 40 nkb0_m, Γ) H := h.1.upd rfl (fun a ha => by
    obtain ⟨V, hV, ht⟩ : ∃ V : Nat → Value, t_OB a (D.1 12) 64 (D.2.1 12) H V ∧ ∀ j, j < 64 → nkOk Γ (nk_ty nkKds_40 j) (V j) := h.1 a nkKds_40 (by show nkKds[Γ a]? = _; rw [ha]; rfl)
    exact ⟨V, hV, fun j hj => nk_le_ok (nkb0_t1 j hj) (ht j hj)⟩)
  have h2 : nkHc (D, (nkKds.set 40 nkb0_m).set 44 nkb0_a, Γ) H := h1.upd rfl (fun a ha => by
    obtain ⟨z, hz, ht⟩ : ∃ z : Nat → Value, H[a]? = some (arrV (D.2.2 0) 2 z) ∧ ∀ j, j < 2 → nkOk Γ (nk_ty nkKds_44 j) (z j) := h.1 a nkKds_44 (by show nkKds[Γ a]? = _; rw [ha]; rfl)
    exact ⟨z, hz, fun j hj => nk_le_ok (nkb0_t2 j hj) (ht j hj)⟩)
  refine ⟨h2.upd nkb0_set (fun a ha => ?_), fun _ => h.2 (show nk_jf nkKds = true by decide +kernel)⟩
  obtain ⟨z, hz, ht⟩ : ∃ z : Nat → Value, H[a]? = some (arrV (D.2.2 0) 2 z) ∧ ∀ j, j < 2 → nkOk Γ (nk_ty nkKds_46 j) (z j) := h.1 a nkKds_46 (by show nkKds[Γ a]? = _; rw [ha]; rfl)
  exact ⟨z, hz, fun j hj => nk_le_ok (nkb0_t3 j hj) (ht j hj)⟩
/-- no cell of the other mode -/
def nkb0_pu (Γ : Nat → Nat) : Prop := ∀ a : Nat, Γ a ≠ 41 ∧ Γ a ≠ 45 ∧ Γ a ≠ 47
/-- the same of the other mode, by its numbers -/
def nkb1_pw (Γ : Nat → Nat) : Prop := ∀ a : Nat, Γ a ≠ 40 ∧ Γ a ≠ 44 ∧ Γ a ≠ 46
theorem nkb0_pu' {Γ : Nat → Nat} (h : nkb0_pu Γ) : nkb1_pw (fun a => nkSw (Γ a)) := fun a => by
  have g := h a
  refine ⟨fun e => ?_, fun e => ?_, fun e => ?_⟩
  · have e : nkSw (Γ a) = nkSw 41 := e
    exact g.1 (nkSw_inj e)
  · have e : nkSw (Γ a) = nkSw 45 := e
    exact g.2.1 (nkSw_inj e)
  · have e : nkSw (Γ a) = nkSw 47 := e
    exact g.2.2 (nkSw_inj e)
theorem nkb0_dn {D : nhD} {Γ : Nat → Nat} {H : Heap} (h : nkH (D, nkb0_kd, Γ) H) (hp : nkb0_pu Γ) (hb : ∀ (a : Nat) (V : Nat → Value), Γ a = 40 → t_OB a (D.1 12) 64 (D.2.1 12) H V → V 32 = .int (nI 1)) (hc : ∀ (a : Nat) (z : Nat → Value), Γ a = 44 → H[a]? = some (arrV (D.2.2 0) 2 z) → nkOk Γ (0, 18446744073709551617, 18446744073709551622) (z 1)) (hd : ∀ (a : Nat) (z : Nat → Value), Γ a = 46 → H[a]? = some (arrV (D.2.2 0) 2 z) → nkOk Γ (0, 18446744073709551617, 18446744073709551622) (z 1)) : nkH (D, nkKds, fun a => nkSw (Γ a)) H := by
  refine ⟨fun a k hk => ?_, h.2.md (show nk_jf nkb0_kd = true by decide +kernel)⟩
  have hk : nkKds[nkSw (Γ a)]? = some k := hk
  have hpa := hp a
  by_cases e0 : Γ a = 40
  · rw [e0] at hk
    have hk : some nkKds_41 = some k := hk
    cases hk
    obtain ⟨V, hV, ht⟩ : ∃ V : Nat → Value, t_OB a (D.1 12) 64 (D.2.1 12) H V ∧ ∀ j, j < 64 → nkOk Γ (nk_ty nkb0_m j) (V j) := h.1 a nkb0_m (by show nkb0_kd[Γ a]? = _; rw [e0]; rfl)
    refine ⟨V, hV, fun j hj => ?_⟩
    have hj : j < 64 := hj
    by_cases ej : j = 32
    · subst ej
      rw [hb a V e0 hV]
      exact ⟨nI 1, rfl, by decide, by decide⟩
    · have g := nk_okSw (ht j hj)
      rw [← nkb0_t4 j hj ej] at g
      exact g
  by_cases e1 : Γ a = 44
  · rw [e1] at hk
    have hk : some nkKds_45 = some k := hk
    cases hk
    obtain ⟨z, hz, ht⟩ : ∃ z : Nat → Value, H[a]? = some (arrV (D.2.2 0) 2 z) ∧ ∀ j, j < 2 → nkOk Γ (nk_ty nkb0_a j) (z j) := h.1 a nkb0_a (by show nkb0_kd[Γ a]? = _; rw [e1]; rfl)
    refine ⟨z, hz, fun j hj => ?_⟩
    have hj : j < 2 := hj
    rcases (show j = 1 ∨ j = 0 by omega) with rfl | rfl
    · exact hc a z e1 hz
    · exact ht 0 (by decide)
  by_cases e2 : Γ a = 46
  · rw [e2] at hk
    have hk : some nkKds_47 = some k := hk
    cases hk
    obtain ⟨z, hz, ht⟩ : ∃ z : Nat → Value, H[a]? = some (arrV (D.2.2 0) 2 z) ∧ ∀ j, j < 2 → nkOk Γ (nk_ty nkb0_a j) (z j) := h.1 a nkb0_a (by show nkb0_kd[Γ a]? = _; rw [e2]; rfl)
    refine ⟨z, hz, fun j hj => ?_⟩
    have hj : j < 2 := hj
    rcases (show j = 1 ∨ j = 0 by omega) with rfl | rfl
    · exact hd a z e2 hz
    · exact ht 0 (by decide)
  have hne : Γ a ≠ 40 ∧ Γ a ≠ 41 ∧ Γ a ≠ 44 ∧ Γ a ≠ 45 ∧ Γ a ≠ 46 ∧ Γ a ≠ 47 := by omega
  rw [nkSw_id hne] at hk
  have hlt : Γ a < 84 := by
    by_cases g : Γ a < 84
    · exact g
    · rw [List.getElem?_eq_none (by rw [nk_swl.1]; omega)] at hk
      cases hk
  have hk2 : nkb0_kd[Γ a]? = some k := by
    rw [nkb0_set, List.getElem?_set_ne (Ne.symm e2), List.getElem?_set_ne (Ne.symm e1), List.getElem?_set_ne (Ne.symm e0)]
    exact hk
  refine nkCell.md ?_ (h.1 a k hk2)
  have g := nk_swt (Γ a) (List.mem_range.mpr hlt) (by
    unfold nk_spc
    simp only [Bool.or_eq_false_iff]
    exact ⟨Bool.eq_false_iff.mpr fun q => hne.1 (Nat.eq_of_beq_eq_true q), Bool.eq_false_iff.mpr fun q => hne.2.1 (Nat.eq_of_beq_eq_true q), Bool.eq_false_iff.mpr fun q => hne.2.2.1 (Nat.eq_of_beq_eq_true q), Bool.eq_false_iff.mpr fun q => hne.2.2.2.1 (Nat.eq_of_beq_eq_true q), Bool.eq_false_iff.mpr fun q => hne.2.2.2.2.1 (Nat.eq_of_beq_eq_true q), Bool.eq_false_iff.mpr fun q => hne.2.2.2.2.2 (Nat.eq_of_beq_eq_true q)⟩)
  rw [List.getD_eq_getElem?_getD, hk] at g
  exact g
def nkb1_m : nkKd := (0, 12, 64, 0, [(2, 42, 0), (2, 43, 0), (0, 18446744073709551616, 18446744073709553216), (0, 18446744073709551616, 18446744073709553216), (0, 18446744073709551616, 18446744073709551620), (0, 18446744071562067968, 18446744075857035263), (0, 18446744073709551616, 18446744073709553216), (0, 18446744073709551616, 18446744073709553217), (0, 18446744073709551616, 18446744073709551621), (0, 18446744071562067968, 18446744075857035263), (1, 9223372036854775808, 27670116110564327423), (2, 45, 0), (2, 47, 0), (2, 48, 0), (2, 49, 0), (2, 50, 0), (2, 51, 0), (2, 52, 0), (2, 53, 0), (2, 54, 0), (2, 55, 0), (2, 56, 0), (2, 57, 0), (2, 58, 0), (2, 82, 0), (2, 83, 0), (2, 59, 0), (2, 80, 0), (2, 81, 0), (2, 60, 0), (2, 61, 0), (2, 62, 0), (0, 18446744073709551616, 18446744073709551617), (0, 18446744073709551616, 18446744073709551617), (0, 18446744073709551616, 18446744073709552736), (0, 18446744071562067968, 18446744075857035263), (0, 18446744073709551616, 18446744073709551706), (0, 18446744071562067968, 18446744075857035263), (0, 18446744073709551616, 18446744073709551620), (2, 63, 0), (0, 18446744073709551615, 18446744073709551651), (2, 64, 0), (0, 18446744071562067968, 18446744075857035263), (2, 65, 0), (0, 18446744073709551616, 18446744073709551656), (0, 18446744073709551616, 18446744073709551656), (2, 66, 0), (2, 67, 0), (2, 68, 0), (0, 18446744073709551616, 18446744073709551626), (2, 69, 0), (0, 18446744071562067968, 18446744075857035263), (2, 70, 0), (2, 71, 0), (2, 72, 0), (2, 73, 0), (2, 74, 0), (2, 75, 0), (2, 76, 0), (2, 77, 0), (0, 18446744073709551616, 18446744073709551646), (0, 18446744071562067968, 18446744075857035263), (2, 78, 0), (2, 79, 0)])
def nkb1_a : nkKd := (1, 0, 2, 2, [(0, 18446744073709551616, 18446744073709551622), (0, 18446744073709551616, 18446744073709551622)])
def nkb1_kd : List nkKd := [nkKds_0, nkKds_1, nkKds_2, nkKds_3, nkKds_4, nkKds_5, nkKds_6, nkKds_7, nkKds_8, nkKds_9, nkKds_10, nkKds_11, nkKds_12, nkKds_13, nkKds_14, nkKds_15, nkKds_16, nkKds_17, nkKds_18, nkKds_19, nkKds_20, nkKds_21, nkKds_22, nkKds_23, nkKds_24, nkKds_25, nkKds_26, nkKds_27, nkKds_28, nkKds_29, nkKds_30, nkKds_31, nkKds_32, nkKds_33, nkKds_34, nkKds_35, nkKds_36, nkKds_37, nkKds_38, nkKds_39, nkKds_40, nkb1_m, nkKds_42, nkKds_43, nkKds_44, nkb1_a, nkKds_46, nkb1_a, nkKds_48, nkKds_49, nkKds_50, nkKds_51, nkKds_52, nkKds_53, nkKds_54, nkKds_55, nkKds_56, nkKds_57, nkKds_58, nkKds_59, nkKds_60, nkKds_61, nkKds_62, nkKds_63, nkKds_64, nkKds_65, nkKds_66, nkKds_67, nkKds_68, nkKds_69, nkKds_70, nkKds_71, nkKds_72, nkKds_73, nkKds_74, nkKds_75, nkKds_76, nkKds_77, nkKds_78, nkKds_79, nkKds_80, nkKds_81, nkKds_82, nkKds_83]
theorem nkb1_s1 : nk_simB nkKds nkb1_kd = true := by decide +kernel
theorem nkb1_s2 : nk_simB nkb1_kd nkKds = true := by decide +kernel
theorem nkb1_s3 : nk_simB nkb1_kd nkKdS = true := by decide +kernel
theorem nkb1_s4 : nk_simB nkKdS nkb1_kd = true := by decide +kernel
theorem nkb1_t1 : ∀ j, j < 64 → nk_le (nk_ty nkKds_41 j) (nk_ty nkb1_m j) = true := by decide +kernel
theorem nkb1_t2 : ∀ j, j < 2 → nk_le (nk_ty nkKds_45 j) (nk_ty nkb1_a j) = true := by decide +kernel
theorem nkb1_t3 : ∀ j, j < 2 → nk_le (nk_ty nkKds_47 j) (nk_ty nkb1_a j) = true := by decide +kernel
theorem nkb1_t4 : ∀ j, j < 64 → j ≠ 32 → nk_ty nkKds_40 j = nkSwV (nk_ty nkb1_m j) := by decide +kernel
theorem nkb1_set : nkb1_kd = ((nkKds.set 41 nkb1_m).set 45 nkb1_a).set 47 nkb1_a := rfl
/-- the table that leaves the bank open -/
theorem nkb1_up {D : nhD} {Γ : Nat → Nat} {H : Heap} (h : nkH (D, nkKds, Γ) H) : nkH (D, nkb1_kd, Γ) H := by
  have h1 : nkHc (D, nkKds.set 41 nkb1_m, Γ) H := h.1.upd rfl (fun a ha => by
    obtain ⟨V, hV, ht⟩ : ∃ V : Nat → Value, t_OB a (D.1 12) 64 (D.2.1 12) H V ∧ ∀ j, j < 64 → nkOk Γ (nk_ty nkKds_41 j) (V j) := h.1 a nkKds_41 (by show nkKds[Γ a]? = _; rw [ha]; rfl)
    exact ⟨V, hV, fun j hj => nk_le_ok (nkb1_t1 j hj) (ht j hj)⟩)
  have h2 : nkHc (D, (nkKds.set 41 nkb1_m).set 45 nkb1_a, Γ) H := h1.upd rfl (fun a ha => by
    obtain ⟨z, hz, ht⟩ : ∃ z : Nat → Value, H[a]? = some (arrV (D.2.2 0) 2 z) ∧ ∀ j, j < 2 → nkOk Γ (nk_ty nkKds_45 j) (z j) := h.1 a nkKds_45 (by show nkKds[Γ a]? = _; rw [ha]; rfl)
    exact ⟨z, hz, fun j hj => nk_le_ok (nkb1_t2 j hj) (ht j hj)⟩)
  refine ⟨h2.upd nkb1_set (fun a ha => ?_), fun _ => h.2 (show nk_jf nkKds = true by decide +kernel)⟩
  obtain ⟨z, hz, ht⟩ : ∃ z : Nat → Value, H[a]? = some (arrV (D.2.2 0) 2 z) ∧ ∀ j, j < 2 → nkOk Γ (nk_ty nkKds_47 j) (z j) := h.1 a nkKds_47 (by show nkKds[Γ a]? = _; rw [ha]; rfl)
  exact ⟨z, hz, fun j hj => nk_le_ok (nkb1_t3 j hj) (ht j hj)⟩
/-- no cell of the other mode -/
def nkb1_pu (Γ : Nat → Nat) : Prop := ∀ a : Nat, Γ a ≠ 40 ∧ Γ a ≠ 44 ∧ Γ a ≠ 46
/-- the same of the other mode, by its numbers -/
def nkb0_pw (Γ : Nat → Nat) : Prop := ∀ a : Nat, Γ a ≠ 41 ∧ Γ a ≠ 45 ∧ Γ a ≠ 47
theorem nkb1_pu' {Γ : Nat → Nat} (h : nkb1_pu Γ) : nkb0_pw (fun a => nkSw (Γ a)) := fun a => by
  have g := h a
  refine ⟨fun e => ?_, fun e => ?_, fun e => ?_⟩
  · have e : nkSw (Γ a) = nkSw 40 := e
    exact g.1 (nkSw_inj e)
  · have e : nkSw (Γ a) = nkSw 44 := e
    exact g.2.1 (nkSw_inj e)
  · have e : nkSw (Γ a) = nkSw 46 := e
    exact g.2.2 (nkSw_inj e)
theorem nkb1_dn {D : nhD} {Γ : Nat → Nat} {H : Heap} (h : nkH (D, nkb1_kd, Γ) H) (hp : nkb1_pu Γ) (hb : ∀ (a : Nat) (V : Nat → Value), Γ a = 41 → t_OB a (D.1 12) 64 (D.2.1 12) H V → V 32 = .int (nI 0)) (hc : ∀ (a : Nat) (z : Nat → Value), Γ a = 45 → H[a]? = some (arrV (D.2.2 0) 2 z) → nkOk Γ (0, 18446744073709551617, 18446744073709551622) (z 0)) (hd : ∀ (a : Nat) (z : Nat → Value), Γ a = 47 → H[a]? = some (arrV (D.2.2 0) 2 z) → nkOk Γ (0, 18446744073709551617, 18446744073709551622) (z 0)) : nkH (D, nkKds, fun a => nkSw (Γ a)) H := by
  refine ⟨fun a k hk => ?_, h.2.md (show nk_jf nkb1_kd = true by decide +kernel)⟩
  have hk : nkKds[nkSw (Γ a)]? = some k := hk
  have hpa := hp a
  by_cases e0 : Γ a = 41
  · rw [e0] at hk
    have hk : some nkKds_40 = some k := hk
    cases hk
    obtain ⟨V, hV, ht⟩ : ∃ V : Nat → Value, t_OB a (D.1 12) 64 (D.2.1 12) H V ∧ ∀ j, j < 64 → nkOk Γ (nk_ty nkb1_m j) (V j) := h.1 a nkb1_m (by show nkb1_kd[Γ a]? = _; rw [e0]; rfl)
    refine ⟨V, hV, fun j hj => ?_⟩
    have hj : j < 64 := hj
    by_cases ej : j = 32
    · subst ej
      rw [hb a V e0 hV]
      exact ⟨nI 0, rfl, by decide, by decide⟩
    · have g := nk_okSw (ht j hj)
      rw [← nkb1_t4 j hj ej] at g
      exact g
  by_cases e1 : Γ a = 45
  · rw [e1] at hk
    have hk : some nkKds_44 = some k := hk
    cases hk
    obtain ⟨z, hz, ht⟩ : ∃ z : Nat → Value, H[a]? = some (arrV (D.2.2 0) 2 z) ∧ ∀ j, j < 2 → nkOk Γ (nk_ty nkb1_a j) (z j) := h.1 a nkb1_a (by show nkb1_kd[Γ a]? = _; rw [e1]; rfl)
    refine ⟨z, hz, fun j hj => ?_⟩
    have hj : j < 2 := hj
    rcases (show j = 0 ∨ j = 1 by omega) with rfl | rfl
    · exact hc a z e1 hz
    · exact ht 1 (by decide)
  by_cases e2 : Γ a = 47
  · rw [e2] at hk
    have hk : some nkKds_46 = some k := hk
    cases hk
    obtain ⟨z, hz, ht⟩ : ∃ z : Nat → Value, H[a]? = some (arrV (D.2.2 0) 2 z) ∧ ∀ j, j < 2 → nkOk Γ (nk_ty nkb1_a j) (z j) := h.1 a nkb1_a (by show nkb1_kd[Γ a]? = _; rw [e2]; rfl)
    refine ⟨z, hz, fun j hj => ?_⟩
    have hj : j < 2 := hj
    rcases (show j = 0 ∨ j = 1 by omega) with rfl | rfl
    · exact hd a z e2 hz
    · exact ht 1 (by decide)
  have hne : Γ a ≠ 40 ∧ Γ a ≠ 41 ∧ Γ a ≠ 44 ∧ Γ a ≠ 45 ∧ Γ a ≠ 46 ∧ Γ a ≠ 47 := by omega
  rw [nkSw_id hne] at hk
  have hlt : Γ a < 84 := by
    by_cases g : Γ a < 84
    · exact g
    · rw [List.getElem?_eq_none (by rw [nk_swl.1]; omega)] at hk
      cases hk
  have hk2 : nkb1_kd[Γ a]? = some k := by
    rw [nkb1_set, List.getElem?_set_ne (Ne.symm e2), List.getElem?_set_ne (Ne.symm e1), List.getElem?_set_ne (Ne.symm e0)]
    exact hk
  refine nkCell.md ?_ (h.1 a k hk2)
  have g := nk_swt (Γ a) (List.mem_range.mpr hlt) (by
    unfold nk_spc
    simp only [Bool.or_eq_false_iff]
    exact ⟨Bool.eq_false_iff.mpr fun q => hne.1 (Nat.eq_of_beq_eq_true q), Bool.eq_false_iff.mpr fun q => hne.2.1 (Nat.eq_of_beq_eq_true q), Bool.eq_false_iff.mpr fun q => hne.2.2.1 (Nat.eq_of_beq_eq_true q), Bool.eq_false_iff.mpr fun q => hne.2.2.2.1 (Nat.eq_of_beq_eq_true q), Bool.eq_false_iff.mpr fun q => hne.2.2.2.2.1 (Nat.eq_of_beq_eq_true q), Bool.eq_false_iff.mpr fun q => hne.2.2.2.2.2 (Nat.eq_of_beq_eq_true q)⟩)
  rw [List.getD_eq_getElem?_getD, hk] at g
  exact g
