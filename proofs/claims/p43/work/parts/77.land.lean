/-! land() of the reference: the bank, startAnew, the end; printed by h_land2.py -/
theorem nk_gmap {α : Type} (f : α → α) : ∀ (vs : List α) (n i : Nat), nk_g (vs.map f) n i = (nk_g vs n i).map f
  | [], _, _ => rfl
  | x :: r, 0, i => rfl
  | x :: r, k + 1, i => by
    show nk_g (f x :: r.map f) (k + 1) i = (nk_g (x :: r) (k + 1) i).map f
    unfold nk_g
    dsimp only
    cases Nat.beq i k with
    | true => rfl
    | false => exact nk_gmap f r k i
/-- a contract with an end of its own -/
theorem nk_handL {kd : List nkKd} {spt : List (Nat × nkSp)} {en : nkIn} (h : nk_hdB en = true) {l : Launch} {D : nhD} {Γ : Nat → Nat} {ρ : Nat → Value} {Qc : Array Value → State → Outcome → State → Prop}
    (hrun : ∀ {y : nhMth} {lo0 : List (Nat × Nat)}, nk_lo0 en.2.2.2.2.1 0 (List.range en.2.2.2.1) = some lo0 → ∀ {p : Program} {e : Env} {R : Room} {s : State} {m : MethodId} {args : Array Value} {below : List Frame} {meth : Method} {c : Code} {cc : ByteArray} {ls : Array Slot}, nkHc2 p R s m args meth c cc (D, kd, Γ) spt en.1 y en.2.1 en.2.2.1 → nkR (D, kd, Γ) y.2.2.1 en.2.2.2.2.2.1 s.heap (en.2.2.2.2.1.1, en.2.2.2.2.1.2.1, lo0, [], en.2.2.2.2.1.2.2.2.2) ρ s.heap [] ls [] → W p l e R s m args below meth c s.heap [] 0 0 (MQ below Qc args s 0 0 (nkA (D, kd, Γ))) (F0 m 0 ls [])) :
    ∀ y, nhMt[en.1]? = some y → Met l y.1 (nhWs y) (nkRm en.2.1 en.2.2.1) (nkPc (D, kd, Γ) (List.range en.2.2.2.1) en.2.2.2.2.1 ρ) Qc 0 0 (fun a => Γ a < kd.length) := by
  unfold nk_hdB at h
  split at h
  · rename_i y hy
    rw [nk_nth_eq] at hy
    split at h
    · rename_i lo0 hlo0
      simp only [Bool.and_eq_true] at h
      obtain ⟨c1, c2, c3, c4⟩ := h
      intro y' hy'
      rw [hy] at hy'
      cases hy'
      exact nk_metG (spt := spt) hy hlo0 (Nat.le_of_ble_eq_true c1) (Pg := fun _ => True) (fun a U q => ⟨q, trivial⟩) (fun hh hr hlk _ hR => hrun hlo0 ⟨hy, hh, hr, hlk⟩ hR)
    · cases h
  · cases h
def nkl0_Y : nkS := (6, [(0, 18446744073709551617, 18446744073709551622), (2, 46, 0), (0, 18446744073709551617, 18446744073709551622), (2, 44, 0), (0, 18446744073709551617, 18446744073709551617), (2, 40, 0)], [(0, 0)], [], [(0, 32, 1), (0, 33, 1), (0, 11, 2), (2, 1, 3), (0, 12, 4), (4, 1, 5)], [], [])
def nkl0_Y2 : nkS := (6, [(0, 18446744073709551617, 18446744073709551622), (2, 47, 0), (0, 18446744073709551617, 18446744073709551622), (2, 45, 0), (0, 18446744073709551617, 18446744073709551617), (2, 41, 0)], [(0, 0)], [], [(0, 32, 1), (0, 33, 1), (0, 11, 2), (2, 1, 3), (0, 12, 4), (4, 1, 5)], [], [])
def nkl0_F : nkS := (9, [(0, 18446744073709551616, 18446744073709551616), (0, 18446744073709551616, 18446744073709551616), (0, 18446744073709551616, 18446744073709551621), (0, 18446744073709551617, 18446744073709551622), (2, 47, 0), (0, 18446744073709551617, 18446744073709551622), (2, 45, 0), (0, 18446744073709551617, 18446744073709551617), (2, 41, 0)], [], [6], [(0, 44, 7), (0, 45, 8)], [], [])
theorem nkl0_t1 : nk_sgM nkb0_kd [] nkl0_sp 165 60 3000 [(40, 32, 32)] [(141, nkl0_Y, [])] 6 [] 300 nkl0_X 138 = true := by decide +kernel
theorem nkl0_t2 : nk_sgM nkKds [nme_371] nkl0_sp 165 60 3000 [(41, 44, 45), (41, 49, 49), (41, 60, 60), (63, 0, 54), (79, 0, 2)] [] 6 [nkl0_F] 300 nkl0_Y2 141 = true := by decide +kernel
def nkl0_Wa : nkWs := nkl0_W ++ [(40, 32, 32), (40, 44, 45), (40, 49, 49), (40, 60, 60), (63, 0, 54), (79, 0, 2)]
theorem nkl0_g : ∀ i, nk_g (nkl0_Y.2.1.map nkSwV) 6 i = (nk_g nkl0_Y.2.1 6 i).map nkSwV := nk_gmap nkSwV nkl0_Y.2.1 6
/-- what land() of the reference answers: -1 and the mode as it was, or a number of houses and the other mode -/
def nkl0_Q (D : nhD) (Γ : Nat → Nat) (a : Nat) : Array Value → State → Outcome → State → Prop := fun _ s o t =>
  (o = .returned (some (.int (-1))) ∧ nkH (D, nkKds, Γ) t.heap ∧ nkFr (D, nkKds, Γ) nkl0_W s.heap t.heap []) ∨
  (∃ n : Int32, o = .returned (some (.int n)) ∧ 0 ≤ n.toInt ∧ n.toInt ≤ 5 ∧ nkH (D, nkKds, fun a => nkSw (Γ a)) t.heap ∧ nkFr (D, nkKds, fun a => nkSw (Γ a)) (nkSwW nkl0_Wa) s.heap t.heap [] ∧ nkFd (D, nkKds, fun a => nkSw (Γ a)) t.heap a 44 (.int (nI 0)) ∧ nkFd (D, nkKds, fun a => nkSw (Γ a)) t.heap a 45 (.int (nI 0)))
theorem nkl0_walk {p : Program} {l : Launch} {e : Env} {R : Room} {s : State} {m : MethodId} {args : Array Value} {below : List Frame} {meth : Method} {c : Code} {cc : ByteArray} {y : nhMth} {D : nhD} {Γ : Nat → Nat} (hh : nkHc2 p R s m args meth c cc (D, nkKds, Γ) nkl0_sp 165 y 60 3000) (hp : nkb0_pu Γ)
    {ρ : Nat → Value} {ls : Array Slot} (hR : nkR (D, nkKds, Γ) y.2.2.1 nkl0_Wa s.heap nkl0_S ρ s.heap [] ls []) {a : Nat} (ea : ρ 0 = .ref a) :
    W p l e R s m args below meth c s.heap [] 0 0 (MQ below (nkl0_Q D Γ a) args s 0 0 (nkA (D, nkKds, Γ))) (F0 m 0 ls []) := by
  have hUq : nkUq Γ := (hR.1.2.2.2.2.2 (show nk_jf nkKds = true by decide +kernel)).1
  have hR0 : nkR (D, nkKds, Γ) y.2.2.1 nkl0_W s.heap nkl0_S ρ s.heap [] ls [] := hR.reb
  refine nkl0_run (Ws := nkl0_W) hh (nk_sub_rf _) hR0 (fun ρ2 H2 l2 ls2 st2 hX2 hR2 => ?_) (fun ρ2 H2 v t hX2 hT2 hF2 hv ht => ?_)
  · have hR2 : nkR (D, nkKds, Γ) y.2.2.1 nkl0_Wa s.heap nkl0_X ρ2 H2 l2 ls2 st2 := ⟨hR2.1, hR2.2.1, hR2.2.2.1, nkFr.thn (locs := []) ⟨rfl, fun _ _ => rfl, fun q hq => (by cases hq), nkKp.rf _ _ _⟩ hR2.2.2.2 (show nk_sub nkl0_W nkl0_Wa = true by decide +kernel)⟩
    have hA : nkA (D, nkKds, Γ) = nkA (D, nkb0_kd, Γ) := nkA_sw (nk_sim_len nkb0_s1)
    have hRb := hR2.sw nkb0_s1 nkb0_s2 (nkb0_up hR2.1.2.2.2.2)
    have hhb : nkHc2 p R s m args meth c cc (D, nkb0_kd, Γ) nkl0_sp 165 y 60 3000 := hh.sw (nk_sim_len nkb0_s2)
    rw [hA]
    refine nk_segH (nk_nil _) nkl0_t1 (show nk_sub [(40, 32, 32)] nkl0_Wa = true by decide +kernel) hhb hRb (fun ce hce ρ3 H3 l3 ls3 st3 hX3 hR3 _ => ?_) (fun a ha => by cases ha)
    obtain rfl := List.mem_singleton.mp hce
    have hR3 : nkR (D, nkb0_kd, Γ) y.2.2.1 nkl0_Wa s.heap nkl0_Y ρ3 H3 l3 ls3 st3 := hR3
    show W p l e R s m args below meth c H3 l3 0 0 _ (F0 m 141 ls3 st3)
    rw [← hA, ← nkA.md]
    obtain ⟨am, e0, hΓm⟩ := nk_rf (hR3.1.1 0 _ rfl)
    obtain ⟨ac, e2, hΓc⟩ := nk_rf (hR3.1.1 2 _ rfl)
    obtain ⟨ad, e4, hΓd⟩ := nk_rf (hR3.1.1 4 _ rfl)
    have hΓm : Γ am = 40 := hΓm
    have hΓc : Γ ac = 44 := hΓc
    have hΓd : Γ ad = 46 := hΓd
    have hkc : nkb0_kd[Γ ac]? = some nkb0_a := by rw [hΓc]; rfl
    have hkd : nkb0_kd[Γ ad]? = some nkb0_a := by rw [hΓd]; rfl
    have e1 : ρ3 1 = .int (nI 1) := by
      obtain ⟨x, ex, x1, x2⟩ := nk_int (hR3.1.1 1 _ rfl)
      rw [ex, nk_nI (x := x) (m := 1) (by omega)]
    have hH : nkH (D, nkKds, fun a => nkSw (Γ a)) H3 := nkb0_dn hR3.1.2.2.2.2 hp (fun q V hq hV => by
      have o : q = am := hUq am q (by rw [hq, hΓm]) (by rw [hΓm]; decide) (by rw [hΓm]; decide)
      subst o
      obtain ⟨-, -, q', k', cell, f1, f2, f3, f4, f5⟩ := hR3.1.2.1 (0, 32, 1) (show (0, 32, 1) ∈ nkl0_Y.2.2.2.2.1 by decide)
      dsimp only at f1 f2 f3 f4 f5
      rw [e0] at f1
      cases f1
      rw [hΓm] at f2
      have f2 : some nkb0_m = some k' := f2
      cases f2
      obtain ⟨cell', z1, z2, z3, z4⟩ := hV
      rw [f4] at z1
      cases z1
      have z5 := z4 32 (by decide)
      have f5 : cell.slots[D.2.1 12 32]? = some (ρ3 1) := f5
      rw [f5] at z5
      rw [← Option.some.inj z5]
      exact e1) (fun q z hq hz => by
      have o : q = ac := hUq ac q (by rw [hq, hΓc]) (by rw [hΓc]; decide) (by rw [hΓc]; decide)
      subst o
      rw [← nk_meA (E := (D, nkb0_kd, Γ)) hR3.1.2.1 (show (2, 1, 3) ∈ nkl0_Y.2.2.2.2.1 by decide) e2 hkc hz]
      exact hR3.1.1 3 _ rfl) (fun q z hq hz => by
      have o : q = ad := hUq ad q (by rw [hq, hΓd]) (by rw [hΓd]; decide) (by rw [hΓd]; decide)
      subst o
      rw [← nk_meA (E := (D, nkb0_kd, Γ)) hR3.1.2.1 (show (4, 1, 5) ∈ nkl0_Y.2.2.2.2.1 by decide) e4 hkd hz]
      exact hR3.1.1 5 _ rfl)
    have hR4 : nkR (D, nkKds, fun a => nkSw (Γ a)) y.2.2.1 (nkSwW nkl0_Wa) s.heap nkl0_Y2 ρ3 H3 l3 ls3 st3 := ⟨⟨nk_swG hR3.1.1 nkl0_g, (hR3.1.2.1.sw nkb0_s3).md, hR3.1.2.2.1, hR3.1.2.2.2.1, hH⟩, hR3.2.1, hR3.2.2.1, (hR3.2.2.2.sw nkb0_s4).md⟩
    refine nk_segH (nk_cons nmi_371 (nk_nil _)) nkl0_t2 (show nk_sub [(41, 44, 45), (41, 49, 49), (41, 60, 60), (63, 0, 54), (79, 0, 2)] (nkSwW nkl0_Wa) = true by decide +kernel) hh.md hR4 (fun ce hce => by cases hce) (fun f hf ρ5 H5 v t hX5 hT5 _ hF5 hv ht => ?_)
    obtain rfl := List.mem_singleton.mp hf
    obtain ⟨x, ex, x1, x2⟩ := nk_int (hT5.1 6 _ rfl)
    have hv : v = some (ρ5 6) := hv.2
    have e5 : ρ5 0 = .ref a := (hX5 0 (by decide)).trans ((hX3 0 (by decide)).trans ((hX2 0 (by decide)).trans ea))
    have z6 : ρ5 7 = .int (nI 0) := by
      obtain ⟨w, ew, w1, w2⟩ := nk_int (hT5.1 7 _ rfl)
      rw [ew, nk_nI (x := w) (m := 0) (by omega)]
    have z7 : ρ5 8 = .int (nI 0) := by
      obtain ⟨w, ew, w1, w2⟩ := nk_int (hT5.1 8 _ rfl)
      rw [ew, nk_nI (x := w) (m := 0) (by omega)]
    have g1 := hT5.2.1.fd (show (0, 44, 7) ∈ nkl0_F.2.2.2.2.1 by decide) e5
    have g2 := hT5.2.1.fd (show (0, 45, 8) ∈ nkl0_F.2.2.2.2.1 by decide) e5
    rw [z6] at g1
    rw [z7] at g2
    refine Or.inr ⟨x, by rw [hv, ex], by omega, by omega, by rw [ht]; exact hT5.2.2.2.2, by rw [ht]; exact hF5, by rw [ht]; exact g1, by rw [ht]; exact g2⟩
  · obtain ⟨x, ex, x1, x2⟩ := nk_int (hT2.1 1 _ rfl)
    have hv : v = some (ρ2 1) := hv.2
    have hx : x = -1 := Int32.toInt_inj.mp (by rw [show (-1 : Int32).toInt = -1 from rfl]; omega)
    exact Or.inl ⟨by rw [hv, ex, hx], by rw [ht]; exact hT2.2.2.2.2, by rw [ht]; exact hF2⟩
def nkl0_en : nkIn := (165, 60, 3000, 1, (1, [(2, 40, 0)], [], [], [], [], []), nkl0_Wa, [])
theorem nkl0_h : nk_hdB nkl0_en = true := by decide +kernel
theorem nkl0_l : nk_lo0 nkl0_en.2.2.2.2.1 0 (List.range 1) = some [(0, 0)] := by decide +kernel
/-- land() of the reference, this mode -/
theorem nkl0_land {l : Launch} {D : nhD} {Γ : Nat → Nat} {ρ : Nat → Value} (hp : nkb0_pu Γ) {a : Nat} (ea : ρ 0 = .ref a) : ∀ y, nhMt[nkl0_en.1]? = some y → Met l y.1 (nhWs y) (nkRm 60 3000) (nkPc (D, nkKds, Γ) [0] nkl0_en.2.2.2.2.1 ρ) (nkl0_Q D Γ a) 0 0 (fun a => Γ a < nkKds.length) := nk_handL (spt := nkl0_sp) (en := nkl0_en) nkl0_h (fun {y lo0} hlo0 {p e R s m args below meth c cc ls} hh hR => by
  have hl : lo0 = [(0, 0)] := Option.some.inj (hlo0.symm.trans nkl0_l)
  subst hl
  exact nkl0_walk hh hp hR ea)

