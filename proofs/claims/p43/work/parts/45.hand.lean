/-! METHODS BY HAND: what they stand on, and single steps -/
def nk_hdB (en : nkIn) : Bool := match nk_nth nhMt en.1 with
  | some y => match nk_lo0 en.2.2.2.2.1 0 (List.range en.2.2.2.1) with
    | some _ => Nat.ble (nk_wid en.2.2.2.2.1 (List.range en.2.2.2.1)) y.2.2.1 && (Nat.beq en.2.2.2.2.1.2.1.length en.2.2.2.2.1.1 && (en.2.2.2.2.1.2.2.2.2.2.2.isEmpty && nk_altB en.2.2.2.2.1.1 en.2.2.2.2.2.2))
    | none => false
  | none => false
theorem nk_hand {kd : List nkKd} {spt : List (Nat × nkSp)} {en : nkIn} (h : nk_hdB en = true)
    (hrun : ∀ {y : nhMth} {lo0 : List (Nat × Nat)}, nhMt[en.1]? = some y → nk_lo0 en.2.2.2.2.1 0 (List.range en.2.2.2.1) = some lo0 → ∀ {p : Program} {l : Launch} {e : Env} {R : Room} {s : State} {m : MethodId} {args : Array Value} {below : List Frame} {meth : Method} {c : Code} {cc : ByteArray} {E : nkE} {ρ : Nat → Value}, E.2.1 = kd → nkHy p R s m args c cc E (nk_md spt en.1 y) en.2.1 en.2.2.1 → meth.sig.returnType = y.2.2.2.1 → meth.locks = false → nkGo p l e R s m args below meth c (MQ below (nkQc E en.2.2.2.2.2.1 en.2.2.2.2.2.2 en.2.2.2.2.1.1 ρ) args s 0 0 (nkA E)) E y.2.2.1 en.2.2.2.2.2.1 s.heap en.2.2.2.2.1.1 ρ 0 (en.2.2.2.2.1.1, en.2.2.2.2.1.2.1, lo0, [], en.2.2.2.2.1.2.2.2.2)) :
    nkMetI kd en := by
  unfold nk_hdB at h
  split at h
  · rename_i y hy
    rw [nk_nth_eq] at hy
    split at h
    · rename_i lo0 hlo0
      simp only [Bool.and_eq_true] at h
      obtain ⟨c1, c2, c3, c4⟩ := h
      refine ⟨fun y' hy' => ?_, Nat.eq_of_beq_eq_true c2, List.isEmpty_iff.mp c3, nk_altB_ok c4⟩
      rw [hy] at hy'
      cases hy'
      exact nk_metOf (spt := spt) hy hlo0 (Nat.le_of_ble_eq_true c1) (fun hkd hh hr hlk => hrun hy hlo0 hkd hh hr hlk)
    · cases h
  · cases h
def nk_sgM (kd : List nkKd) (IT : List nkIn) (spt : List (Nat × nkSp)) (mn fr lo : Nat) (Ws : nkWs) (ces : List nkCe) (np : Nat) (alts : List nkS) (fuel : Nat) (S : nkS) (pc : Nat) : Bool := match nk_nth nhMt mn with
  | some y => nk_sg kd IT spt mn y fr lo Ws ces np alts fuel S pc
  | none => false
theorem nk_sgM_ok {kd : List nkKd} {IT : List nkIn} {spt : List (Nat × nkSp)} {mn fr lo : Nat} {Ws : nkWs} {ces : List nkCe} {np : Nat} {alts : List nkS} {fuel : Nat} {S : nkS} {pc : Nat} {y : nhMth} (h : nk_sgM kd IT spt mn fr lo Ws ces np alts fuel S pc = true) (hy : nhMt[mn]? = some y) : nk_sg kd IT spt mn y fr lo Ws ces np alts fuel S pc = true := by
  unfold nk_sgM at h
  rw [nk_nth_eq, hy] at h
  exact h
section NK45
variable {p : Program} {l : Launch} {e : Env} {R : Room} {s : State} {m : MethodId} {args : Array Value} {below : List Frame} {meth : Method} {c : Code} {Q : State → Prop}
variable {cc : ByteArray} {E : nkE} {nL own : Nat} {Ws : nkWs} {H0 : Heap} {S : nkS} {ρ : Nat → Value} {H : Heap} {locs : List Loc} {ls : Array Slot} {st : List Value} {pc : Nat}
/-- an array's read, of which the hand knows more than the table of kinds -/
theorem nk_hAld (hF : nhFx p c s m args cc nL own E.1) {i : Instr} (hd : decode cc pc = .ok (i, 1)) {x o : Nat} {rest : List Nat} (hst : S.2.2.2.1 = x :: o :: rest) (hR : nkR E nL Ws H0 S ρ H locs ls st) {ti n a : Nat} (hi : nh_aI i ti = true) {z : Nat → Value} (ea : ρ o = .ref a) (hz : H[a]? = some (arrV (E.1.2.2 ti) n z)) {j : Int32} (ej : ρ x = .int j) (h1 : 0 ≤ j.toInt) (h2 : j.toInt < n) {v : nkV} (hv : nkOk E.2.2 v (z j.toNatClampNeg))
    (k : ∀ st', nkR E nL Ws H0 (nk_push S rest v) (updV ρ S.1 (z j.toNatClampNeg)) H locs ls st' → W p l e R s m args below meth c H locs 0 0 Q (F0 m (pc + 1) ls st')) : W p l e R s m args below meth c H locs 0 0 Q (F0 m pc ls st) := by
  obtain ⟨hx, hb, hml, ⟨C, hC, hown⟩, hts, hK⟩ := hF
  have hs := hR.2.2.1
  rw [hst] at hs
  obtain ⟨lx, st1, rfl, hs1⟩ := hs.inv1
  obtain ⟨lo, st2, rfl, hs2⟩ := hs1.inv1
  rw [ea, ej]
  exact nh_aldW hx hb hK hi hz h1 h2 hd (k _ (nk_push_ok hR hs2 hv))
end NK45
