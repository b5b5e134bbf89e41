/-! SEGMENTS: a walk by the checker from one place of a method to others, for proofs by hand -/
def nk_sg (kd : List nkKd) (IT : List nkIn) (spt : List (Nat × nkSp)) (mn : Nat) (y : nhMth) (fr lo : Nat) (Ws : nkWs) (ces : List nkCe) (np : Nat) (alts : List nkS) (fuel : Nat) (S : nkS) (pc : Nat) : Bool :=
  Nat.ble np S.1 && nk_rus (fun S' => nk_run kd IT spt fuel (nk_md spt mn y) (ces, np, none) fr lo Ws S' pc) np alts (nk_spl kd (nk_md spt mn y).2.2.2.2 pc S)
theorem nk_seg {kd : List nkKd} {IT : List nkIn} {spt : List (Nat × nkSp)} (hIT : ∀ en ∈ IT, nkMetI kd en) {mn : Nat} {y : nhMth} {fr lo : Nat} {Ws : nkWs} {ces : List nkCe} {np : Nat} {alts : List nkS} {fuel : Nat} {S : nkS} {pc : Nat} (h : nk_sg kd IT spt mn y fr lo Ws ces np alts fuel S pc = true)
    {p : Program} {l : Launch} {e : Env} {R : Room} {s : State} {m : MethodId} {args : Array Value} {below : List Frame} {meth : Method} {c : Code} {cc : ByteArray} {E : nkE} {Qc : Array Value → State → Outcome → State → Prop} (hkd : E.2.1 = kd) (hh : nkHy p R s m args c cc E (nk_md spt mn y) fr lo) (hr : meth.sig.returnType = y.2.2.2.1) (hlk : meth.locks = false)
    {H0 : Heap} (hun0 : ∀ q : Nat, E.2.1.length ≤ E.2.2 q → H0[q]? = s.heap[q]?) {ρ : Nat → Value} {H : Heap} {locs : List Loc} {ls : Array Slot} {st : List Value} (hR : nkR E y.2.2.1 Ws H0 S ρ H locs ls st)
    (k : ∀ ce ∈ ces, ∀ (ρ2 : Nat → Value) (H2 : Heap) (locs2 : List Loc) (ls2 : Array Slot) (st2 : List Value), nkX np ρ ρ2 → nkR E y.2.2.1 Ws H0 ce.2.1 ρ2 H2 locs2 ls2 st2 → W p l e R s m args below meth c H2 locs2 0 0 (MQ below Qc args s 0 0 (nkA E)) (F0 m ce.1 ls2 st2))
    (kr : ∀ a ∈ alts, ∀ (ρ2 : Nat → Value) (H2 : Heap) (v : Option Value) (t : State), nkX np ρ ρ2 → nkT E a ρ2 H2 → nkFr E Ws H0 H2 [] → nkRt a ρ2 v → t.heap = H2 → Qc args s (.returned v) t) :
    W p l e R s m args below meth c H locs 0 0 (MQ below Qc args s 0 0 (nkA E)) (F0 m pc ls st) := by
  subst hkd
  unfold nk_sg at h
  rw [Bool.and_eq_true] at h
  obtain ⟨h1, h2⟩ := h
  have h1 := Nat.le_of_ble_eq_true h1
  obtain ⟨S', k1, k2, ρ', k4, k3⟩ := nk_spl_ok (pc := pc) hR (sp := (nk_md spt mn y).2.2.2.2)
  obtain ⟨L', r1, r2⟩ := nk_rus_ok h2 S' k1
  refine nk_run_ok hIT fuel (nk_md spt mn y) (ces, np, none) fr lo Ws S' pc L' r1 (ρ0 := ρ) (ρp := ρ) (n0 := S.1) rfl hh hun0 hr hlk h1 (nkX.rf _ ρ) (fun ce hce ρ2 H2 locs2 ls2 st2 hX2 hR2 _ => k ce hce ρ2 H2 locs2 ls2 st2 hX2 hR2) (fun ms hms => by cases hms) ?_ k2 ρ' H locs ls st k4 k3
  intro F hF ρ1 H1 locs1 ls1 st1 v t g1 g2 g3 g4 g5
  obtain ⟨a, a1, σ, a2⟩ := nk_enA_ok (nk_fins_ok r2 F hF)
  obtain ⟨e1, e2, e3, e4⟩ := nk_ent_ok a2 g3
  refine kr a a1 (nk_pk σ ρ1) H1 v t (fun i hi => ?_) e1.1 ?_ ?_ g5
  · rw [e2 i hi, g1 i (Nat.lt_of_lt_of_le hi h1)]
  · obtain ⟨f1, f2, f3, f4⟩ := g3.2.2.2
    exact ⟨f1, f2, fun q hq => (by cases hq), f4⟩
  · have hs1 := e1.2.2.1
    have hs2 := g3.2.2.1.1
    rw [hs1.1] at hs2
    unfold nkRt at g4 ⊢
    split at g4
    · rename_i hst
      rw [hst] at hs2
      have hnil : a.2.2.2.1 = [] := by
        cases hq : a.2.2.2.1 with
        | nil => rfl
        | cons x r =>
          rw [hq] at hs2
          have hlen := congrArg List.length hs2
          simp at hlen
      rw [hnil]
      exact g4
    · rename_i r hst
      rw [hst] at hs2
      cases hq : a.2.2.2.1 with
      | nil =>
        rw [hq] at hs2
        have hlen := congrArg List.length hs2
        simp at hlen
      | cons x xs =>
        rw [hq] at hs2
        cases hq2 : xs with
        | cons x2 xs2 =>
          rw [hq2] at hs2
          have hlen := congrArg List.length hs2
          simp at hlen
        | nil =>
          rw [hq2] at hs2
          have h5 : nk_pk σ ρ1 x = ρ1 r := List.head_eq_of_cons_eq hs2
          exact ⟨hs1.2 x (by rw [hq]; exact List.mem_cons_self), by rw [h5]; exact g4.2⟩
    · exact g4.elim
