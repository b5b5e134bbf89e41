/-! land() of the reference: the bank, startAnew, the end; printed by h_land2.py -/
def nkl1_Y : nkS := (6, [(0, 18446744073709551617, 18446744073709551622), (2, 47, 0), (0, 18446744073709551617, 18446744073709551622), (2, 45, 0), (0, 18446744073709551616, 18446744073709551616), (2, 41, 0)], [(0, 0)], [], [(0, 32, 1), (0, 33, 1), (0, 11, 2), (2, 0, 3), (0, 12, 4), (4, 0, 5)], [], [])
def nkl1_Y2 : nkS := (6, [(0, 18446744073709551617, 18446744073709551622), (2, 46, 0), (0, 18446744073709551617, 18446744073709551622), (2, 44, 0), (0, 18446744073709551616, 18446744073709551616), (2, 40, 0)], [(0, 0)], [], [(0, 32, 1), (0, 33, 1), (0, 11, 2), (2, 0, 3), (0, 12, 4), (4, 0, 5)], [], [])
def nkl1_F : nkS := (9, [(0, 18446744073709551616, 18446744073709551616), (0, 18446744073709551616, 18446744073709551616), (0, 18446744073709551616, 18446744073709551621), (0, 18446744073709551617, 18446744073709551622), (2, 46, 0), (0, 18446744073709551617, 18446744073709551622), (2, 44, 0), (0, 18446744073709551616, 18446744073709551616), (2, 40, 0)], [], [6], [(0, 44, 7), (0, 45, 8)], [], [])
theorem nkl1_t1 : nk_sgM nkb1_kd [] nkl1_sp 165 60 3000 [(41, 32, 32)] [(141, nkl1_Y, [])] 6 [] 300 nkl1_X 138 = true := by decide +kernel
theorem nkl1_t2 : nk_sgM nkKds [nme_370] nkl1_sp 165 60 3000 [(40, 44, 45), (40, 49, 49), (40, 60, 60), (63, 0, 54), (79, 0, 2)] [] 6 [nkl1_F] 300 nkl1_Y2 141 = true := by decide +kernel
def nkl1_Wa : nkWs := nkl1_W ++ [(41, 32, 32), (41, 44, 45), (41, 49, 49), (41, 60, 60), (63, 0, 54), (79, 0, 2)]
theorem nkl1_g : ∀ i, nk_g (nkl1_Y.2.1.map nkSwV) 6 i = (nk_g nkl1_Y.2.1 6 i).map nkSwV := nk_gmap nkSwV nkl1_Y.2.1 6
/-- what land() of the reference answers: -1 and the mode as it was, or a number of houses and the other mode -/
def nkl1_Q (D : nhD) (Γ : Nat → Nat) (a : Nat) : Array Value → State → Outcome → State → Prop := fun _ s o t =>
  (o = .returned (some (.int (-1))) ∧ nkH (D, nkKds, Γ) t.heap ∧ nkFr (D, nkKds, Γ) nkl1_W s.heap t.heap []) ∨
  (∃ n : Int32, o = .returned (some (.int n)) ∧ 0 ≤ n.toInt ∧ n.toInt ≤ 5 ∧ nkH (D, nkKds, fun a => nkSw (Γ a)) t.heap ∧ nkFr (D, nkKds, fun a => nkSw (Γ a)) (nkSwW nkl1_Wa) s.heap t.heap [] ∧ nkFd (D, nkKds, fun a => nkSw (Γ a)) t.heap a 44 (.int (nI 0)) ∧ nkFd (D, nkKds, fun a => nkSw (Γ a)) t.heap a 45 (.int (nI 0)))
theorem nkl1_walk {p : Program} {l : Launch} {e : Env} {R : Room} {s : State} {m : MethodId} {args : Array Value} {below : List Frame} {meth : Method} {c : Code} {cc : ByteArray} {y : nhMth} {D : nhD} {Γ : Nat → Nat} (hh : nkHc2 p R s m args meth c cc (D, nkKds, Γ) nkl1_sp 165 y 60 3000) (hp : nkb1_pu Γ)
    {ρ : Nat → Value} {ls : Array Slot} (hR : nkR (D, nkKds, Γ) y.2.2.1 nkl1_Wa s.heap nkl1_S ρ s.heap [] ls []) {a : Nat} (ea : ρ 0 = .ref a) :
    W p l e R s m args below meth c s.heap [] 0 0 (MQ below (nkl1_Q D Γ a) args s 0 0 (nkA (D, nkKds, Γ))) (F0 m 0 ls []) := by
  have hUq : nkUq Γ := (hR.1.2.2.2.2.2 (show nk_jf nkKds = true by decide +kernel)).1
  have hR0 : nkR (D, nkKds, Γ) y.2.2.1 nkl1_W s.heap nkl1_S ρ s.heap [] ls [] := hR.reb
  refine nkl1_run (Ws := nkl1_W) hh (nk_sub_rf _) hR0 (fun ρ2 H2 l2 ls2 st2 hX2 hR2 => ?_) (fun ρ2 H2 v t hX2 hT2 hF2 hv ht => ?_)
  · have hR2 : nkR (D, nkKds, Γ) y.2.2.1 nkl1_Wa s.heap nkl1_X ρ2 H2 l2 ls2 st2 := ⟨hR2.1, hR2.2.1, hR2.2.2.1, nkFr.thn (locs := []) ⟨rfl, fun _ _ => rfl, fun q hq => (by cases hq), nkKp.rf _ _ _⟩ hR2.2.2.2 (show nk_sub nkl1_W nkl1_Wa = true by decide +kernel)⟩
    have hA : nkA (D, nkKds, Γ) = nkA (D, nkb1_kd, Γ) := nkA_sw (nk_sim_len nkb1_s1)
    have hRb := hR2.sw nkb1_s1 nkb1_s2 (nkb1_up hR2.1.2.2.2.2)
    have hhb : nkHc2 p R s m args meth c cc (D, nkb1_kd, Γ) nkl1_sp 165 y 60 3000 := hh.sw (nk_sim_len nkb1_s2)
    rw [hA]
    refine nk_segH (nk_nil _) nkl1_t1 (show nk_sub [(41, 32, 32)] nkl1_Wa = true by decide +kernel) hhb hRb (fun ce hce ρ3 H3 l3 ls3 st3 hX3 hR3 _ => ?_) (fun a ha => by cases ha)
    obtain rfl := List.mem_singleton.mp hce
    have hR3 : nkR (D, nkb1_kd, Γ) y.2.2.1 nkl1_Wa s.heap nkl1_Y ρ3 H3 l3 ls3 st3 := hR3
    show W p l e R s m args below meth c H3 l3 0 0 _ (F0 m 141 ls3 st3)
    rw [← hA, ← nkA.md]
    obtain ⟨am, e0, hΓm⟩ := nk_rf (hR3.1.1 0 _ rfl)
    obtain ⟨ac, e2, hΓc⟩ := nk_rf (hR3.1.1 2 _ rfl)
    obtain ⟨ad, e4, hΓd⟩ := nk_rf (hR3.1.1 4 _ rfl)
    have hΓm : Γ am = 41 := hΓm
    have hΓc : Γ ac = 45 := hΓc
    have hΓd : Γ ad = 47 := hΓd
    have hkc : nkb1_kd[Γ ac]? = some nkb1_a := by rw [hΓc]; rfl
    have hkd : nkb1_kd[Γ ad]? = some nkb1_a := by rw [hΓd]; rfl
    have e1 : ρ3 1 = .int (nI 0) := by
      obtain ⟨x, ex, x1, x2⟩ := nk_int (hR3.1.1 1 _ rfl)
      rw [ex, nk_nI (x := x) (m := 0) (by omega)]
    have hH : nkH (D, nkKds, fun a => nkSw (Γ a)) H3 := nkb1_dn hR3.1.2.2.2.2 hp (fun q V hq hV => by
      have o : q = am := hUq am q (by rw [hq, hΓm]) (by rw [hΓm]; decide) (by rw [hΓm]; decide)
      subst o
      obtain ⟨-, -, q', k', cell, f1, f2, f3, f4, f5⟩ := hR3.1.2.1 (0, 32, 1) (show (0, 32, 1) ∈ nkl1_Y.2.2.2.2.1 by decide)
      dsimp only at f1 f2 f3 f4 f5
      rw [e0] at f1
      cases f1
      rw [hΓm] at f2
      have f2 : some nkb1_m = some k' := f2
      cases f2
      obtain ⟨cell', z1, z2, z3, z4⟩ := hV
      rw [f4] at z1
      cases z1
      have z5 := z4 32 (by decide)
      have f5 : cell.slots[D.2.1 12 32]? = some (ρ3 1) := f5
      rw [f5] at z5
      rw [← Option.some.inj z5]
      exact e1) (fun q z hq hz => by
      have o : q = ac := hUq ac q (by rw [hq, hΓc]) (by rw [hΓc]; decide) (by rw [hΓc]; decide)
      subst o
      rw [← nk_meA (E := (D, nkb1_kd, Γ)) hR3.1.2.1 (show (2, 0, 3) ∈ nkl1_Y.2.2.2.2.1 by decide) e2 hkc hz]
      exact hR3.1.1 3 _ rfl) (fun q z hq hz => by
      have o : q = ad := hUq ad q (by rw [hq, hΓd]) (by rw [hΓd]; decide) (by rw [hΓd]; decide)
      subst o
      rw [← nk_meA (E := (D, nkb1_kd, Γ)) hR3.1.2.1 (show (4, 0, 5) ∈ nkl1_Y.2.2.2.2.1 by decide) e4 hkd hz]
      exact hR3.1.1 5 _ rfl)
    have hR4 : nkR (D, nkKds, fun a => nkSw (Γ a)) y.2.2.1 (nkSwW nkl1_Wa) s.heap nkl1_Y2 ρ3 H3 l3 ls3 st3 := ⟨⟨nk_swG hR3.1.1 nkl1_g, (hR3.1.2.1.sw nkb1_s3).md, hR3.1.2.2.1, hR3.1.2.2.2.1, hH⟩, hR3.2.1, hR3.2.2.1, (hR3.2.2.2.sw nkb1_s4).md⟩
    refine nk_segH (nk_cons nmi_370 (nk_nil _)) nkl1_t2 (show nk_sub [(40, 44, 45), (40, 49, 49), (40, 60, 60), (63, 0, 54), (79, 0, 2)] (nkSwW nkl1_Wa) = true by decide +kernel) hh.md hR4 (fun ce hce => by cases hce) (fun f hf ρ5 H5 v t hX5 hT5 _ hF5 hv ht => ?_)
    obtain rfl := List.mem_singleton.mp hf
    obtain ⟨x, ex, x1, x2⟩ := nk_int (hT5.1 6 _ rfl)
    have hv : v = some (ρ5 6) := hv.2
    have e5 : ρ5 0 = .ref a := (hX5 0 (by decide)).trans ((hX3 0 (by decide)).trans ((hX2 0 (by decide)).trans ea))
    have z6 : ρ5 7 = .int (nI 0) := by
      obtain ⟨w, ew, w1, w2⟩ := nk_int (hT5.1 7 _ rfl)
      rw [ew, nk_nI (x := w) (m := 0) (by omega)]
    have z7 : ρ5 8 = .int (nI 0) := by
      obtain ⟨w, ew, w1, w2⟩ := nk_int (hT5.1 8 _ rfl)
      rw [ew, nk_nI (x := w) (m := 0) (by omega)]
    have g1 := hT5.2.1.fd (show (0, 44, 7) ∈ nkl1_F.2.2.2.2.1 by decide) e5
    have g2 := hT5.2.1.fd (show (0, 45, 8) ∈ nkl1_F.2.2.2.2.1 by decide) e5
    rw [z6] at g1
    rw [z7] at g2
    refine Or.inr ⟨x, by rw [hv, ex], by omega, by omega, by rw [ht]; exact hT5.2.2.2.2, by rw [ht]; exact hF5, by rw [ht]; exact g1, by rw [ht]; exact g2⟩
  · obtain ⟨x, ex, x1, x2⟩ := nk_int (hT2.1 1 _ rfl)
    have hv : v = some (ρ2 1) := hv.2
    have hx : x = -1 := Int32.toInt_inj.mp (by rw [show (-1 : Int32).toInt = -1 from rfl]; omega)
    exact Or.inl ⟨by rw [hv, ex, hx], by rw [ht]; exact hT2.2.2.2.2, by rw [ht]; exact hF2⟩
def nkl1_en : nkIn := (165, 60, 3000, 1, (1, [(2, 41, 0)], [], [], [], [], []), nkl1_Wa, [])
theorem nkl1_h : nk_hdB nkl1_en = true := by decide +kernel
theorem nkl1_l : nk_lo0 nkl1_en.2.2.2.2.1 0 (List.range 1) = some [(0, 0)] := by decide +kernel
/-- land() of the reference, this mode -/
theorem nkl1_land {l : Launch} {D : nhD} {Γ : Nat → Nat} {ρ : Nat → Value} (hp : nkb1_pu Γ) {a : Nat} (ea : ρ 0 = .ref a) : ∀ y, nhMt[nkl1_en.1]? = some y → Met l y.1 (nhWs y) (nkRm 60 3000) (nkPc (D, nkKds, Γ) [0] nkl1_en.2.2.2.2.1 ρ) (nkl1_Q D Γ a) 0 0 (fun a => Γ a < nkKds.length) := nk_handL (spt := nkl1_sp) (en := nkl1_en) nkl1_h (fun {y lo0} hlo0 {p e R s m args below meth c cc ls} hh hR => by
  have hl : lo0 = [(0, 0)] := Option.some.inj (hlo0.symm.trans nkl1_l)
  subst hl
  exact nkl1_walk hh hp hR ea)

