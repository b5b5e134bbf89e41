/-! CONTRACTS WITH GHOSTS: a pattern's contract, and more of the heap than patterns say -/
def nkPg (E : nkE) (as : List Nat) (S : nkS) (ρ : Nat → Value) (G : Heap → Prop) : Array Value → State → Prop := fun a U => nkPc E as S ρ a U ∧ G U.heap
def nkQg (E : nkE) (Ws : nkWs) (Fs : List nkS) (n : Nat) (ρ : Nat → Value) (G : Heap → Heap → Option Value → nkS → (Nat → Value) → Prop) : Array Value → State → Outcome → State → Prop := fun _ st o t =>
  (∃ (v : Option Value) (F : nkS) (ρ' : Nat → Value), o = .returned v ∧ F ∈ Fs ∧ n ≤ F.1 ∧ nkX n ρ ρ' ∧ nkT E F ρ' t.heap ∧ nkRt F ρ' v ∧ G st.heap t.heap v F ρ') ∧ nkFr E Ws st.heap t.heap []
theorem nkPg_blind (E : nkE) (as : List Nat) (S : nkS) (ρ : Nat → Value) (G : Heap → Prop) : FrameBlind (nkPg E as S ρ G) := fun a U g mk q => ⟨nkPc_blind E as S ρ a U g mk q.1, q.2⟩
def nkMetG (kd : List nkKd) (en : nkIn) (Pg : nkE → (Nat → Value) → Heap → Prop) (Qg : nkE → (Nat → Value) → Heap → Heap → Option Value → nkS → (Nat → Value) → Prop) : Prop :=
  (∀ y, nhMt[en.1]? = some y → ∀ (l : Launch) (D : nhD) (Γ : Nat → Nat) (ρ : Nat → Value), Met l y.1 (nhWs y) (nkRm en.2.1 en.2.2.1) (nkPg (D, kd, Γ) (List.range en.2.2.2.1) en.2.2.2.2.1 ρ (Pg (D, kd, Γ) ρ)) (nkQg (D, kd, Γ) en.2.2.2.2.2.1 en.2.2.2.2.2.2 en.2.2.2.2.1.1 ρ (Qg (D, kd, Γ) ρ)) 0 0 (fun a => Γ a < kd.length)) ∧ en.2.2.2.2.1.2.1.length = en.2.2.2.2.1.1 ∧ en.2.2.2.2.1.2.2.2.2.2.2 = [] ∧ ∀ alt ∈ en.2.2.2.2.2.2, alt.2.1.length = alt.1 ∧ en.2.2.2.2.1.1 ≤ alt.1
/-- a contract out of a walk from the heap at the call -/
theorem nk_metG {kd : List nkKd} {mn : Nat} {y : nhMth} (hy : nhMt[mn]? = some y) {spt : List (Nat × nkSp)} {fr lo : Nat} {Ws : nkWs} {as : List Nat} {S : nkS} {lo0 : List (Nat × Nat)} (hlo : nk_lo0 S 0 as = some lo0) (hw : nk_wid S as ≤ y.2.2.1) {l : Launch} {D : nhD} {Γ : Nat → Nat} {ρ : Nat → Value} {Pc : Array Value → State → Prop} {Pg : Heap → Prop} (hPc : ∀ a U, Pc a U → nkPc (D, kd, Γ) as S ρ a U ∧ Pg U.heap) {Qc : Array Value → State → Outcome → State → Prop}
    (hrun : ∀ {p : Program} {e : Env} {R : Room} {s : State} {m : MethodId} {args : Array Value} {below : List Frame} {meth : Method} {c : Code} {cc : ByteArray} {ls : Array Slot}, nkHy p R s m args c cc (D, kd, Γ) (nk_md spt mn y) fr lo → meth.sig.returnType = y.2.2.2.1 → meth.locks = false → Pg s.heap → nkR (D, kd, Γ) y.2.2.1 Ws s.heap (S.1, S.2.1, lo0, [], S.2.2.2.2) ρ s.heap [] ls [] → W p l e R s m args below meth c s.heap [] 0 0 (MQ below Qc args s 0 0 (nkA (D, kd, Γ))) (F0 m 0 ls [])) :
    Met l y.1 (nhWs y) (nkRm fr lo) Pc Qc 0 0 (fun a => Γ a < kd.length) := by
  obtain ⟨m1, m2, m3, m4, m5, m6⟩ := nh_mt_ok hy
  refine Met.ofW (cc := y.2.1) (maxL := y.2.2.1) (ret := y.2.2.2.1) m6 rfl ?_
  intro p e s m args below meth c s₁ B hml hv
  obtain ⟨⟨rfl, hT, hK, hZ⟩, hG⟩ := hPc _ _ hv
  have hts := atoms_spec (ws := nhWs y) B.pre
  have hts' : ∀ w ∈ nhTb, w.before (as.map ρ).toArray s = true := fun w hw => hts w (List.mem_cons_of_mem _ hw)
  obtain ⟨o, ho1, ho2⟩ := nhMo_ok hy
  have hmd1 : (nk_md spt mn y).1 = o := by
    show nk_nD nhMo mn 99 = o
    unfold nk_nD
    rw [nk_nth_eq, ho1]
  have hdt : nh_dtB y.2.1 (nk_md spt mn y).2.2.1 = true := by
    have h1 := nhZ.at nhDz hy
    have e1 : (nk_md spt mn y).2.2.1 = nhDa.getD mn [] := by
      show nk_nD nhDa mn [] = _
      unfold nk_nD
      rw [nk_nth_eq, List.getD_eq_getElem?_getD]
      cases nhDa[mn]? <;> rfl
    rw [e1]
    exact h1
  have hF : nhFx p c s m (as.map ρ).toArray y.2.1 (nk_md spt mn y).2.1 (nk_md spt mn y).1 D := ⟨B.exec, B.bytes, hml, ⟨_, by rw [hmd1]; exact ho2, findClass_of_methodNamed B.named⟩, hts', hK⟩
  obtain ⟨k1, k2, k3⟩ := nk_lo0_ok (E := (D, kd, Γ)) hT.1 hlo
  have hlv := lv_entry (as.map ρ) (n := y.2.2.1) (by rw [k3]; exact hw)
  rw [lg_entry_eq]
  generalize (lg_sl (as.map ρ) ++ List.replicate (y.2.2.1 - (lg_sl (as.map ρ)).length) Slot.unset).toArray = ls at hlv ⊢
  exact hrun (e := e) (below := below) ⟨hF, hZ, fun _ _ hq => nk_dk_ok hdt hq, rfl, rfl⟩ B.returns B.notSynchronized hG ⟨hT, ⟨hlv.1, hlv.2.1, fun q hq => ⟨(k2 q hq).1, hlv.2.2 _ (k2 q hq).2⟩⟩, ⟨rfl, fun i hi => by cases hi⟩, rfl, fun _ _ => rfl, (fun q hq => by cases hq), nkKp.rf _ _ _⟩
/-- the words under which a walk by hand stands -/
def nkHc2 (p : Program) (R : Room) (s : State) (m : MethodId) (args : Array Value) (meth : Method) (c : Code) (cc : ByteArray) (E : nkE) (spt : List (Nat × nkSp)) (mn : Nat) (y : nhMth) (fr lo : Nat) : Prop := nhMt[mn]? = some y ∧ nkHy p R s m args c cc E (nk_md spt mn y) fr lo ∧ meth.sig.returnType = y.2.2.2.1 ∧ meth.locks = false
theorem nk_handG {kd : List nkKd} {spt : List (Nat × nkSp)} {en : nkIn} {Pg : nkE → (Nat → Value) → Heap → Prop} {Qg : nkE → (Nat → Value) → Heap → Heap → Option Value → nkS → (Nat → Value) → Prop} (h : nk_hdB en = true)
    (hrun : ∀ {y : nhMth} {lo0 : List (Nat × Nat)}, nk_lo0 en.2.2.2.2.1 0 (List.range en.2.2.2.1) = some lo0 → ∀ {p : Program} {l : Launch} {e : Env} {R : Room} {s : State} {m : MethodId} {args : Array Value} {below : List Frame} {meth : Method} {c : Code} {cc : ByteArray} {D : nhD} {Γ : Nat → Nat} {ρ : Nat → Value} {ls : Array Slot}, nkHc2 p R s m args meth c cc (D, kd, Γ) spt en.1 y en.2.1 en.2.2.1 → Pg (D, kd, Γ) ρ s.heap → nkR (D, kd, Γ) y.2.2.1 en.2.2.2.2.2.1 s.heap (en.2.2.2.2.1.1, en.2.2.2.2.1.2.1, lo0, [], en.2.2.2.2.1.2.2.2.2) ρ s.heap [] ls [] → W p l e R s m args below meth c s.heap [] 0 0 (MQ below (nkQg (D, kd, Γ) en.2.2.2.2.2.1 en.2.2.2.2.2.2 en.2.2.2.2.1.1 ρ (Qg (D, kd, Γ) ρ)) args s 0 0 (nkA (D, kd, Γ))) (F0 m 0 ls [])) :
    nkMetG kd en Pg Qg := by
  unfold nk_hdB at h
  split at h
  · rename_i y hy
    rw [nk_nth_eq] at hy
    split at h
    · rename_i lo0 hlo0
      simp only [Bool.and_eq_true] at h
      obtain ⟨c1, c2, c3, c4⟩ := h
      refine ⟨fun y' hy' l D Γ ρ => ?_, Nat.eq_of_beq_eq_true c2, List.isEmpty_iff.mp c3, nk_altB_ok c4⟩
      rw [hy] at hy'
      cases hy'
      exact nk_metG (spt := spt) hy hlo0 (Nat.le_of_ble_eq_true c1) (Pg := Pg (D, kd, Γ) ρ) (fun a U q => q) (fun hh hr hlk hG hR => hrun hlo0 ⟨hy, hh, hr, hlk⟩ hG hR)
    · cases h
  · cases h
theorem nk_handI {kd : List nkKd} {spt : List (Nat × nkSp)} {en : nkIn} (h : nk_hdB en = true)
    (hrun : ∀ {y : nhMth} {lo0 : List (Nat × Nat)}, nk_lo0 en.2.2.2.2.1 0 (List.range en.2.2.2.1) = some lo0 → ∀ {p : Program} {l : Launch} {e : Env} {R : Room} {s : State} {m : MethodId} {args : Array Value} {below : List Frame} {meth : Method} {c : Code} {cc : ByteArray} {D : nhD} {Γ : Nat → Nat} {ρ : Nat → Value} {ls : Array Slot}, nkHc2 p R s m args meth c cc (D, kd, Γ) spt en.1 y en.2.1 en.2.2.1 → nkR (D, kd, Γ) y.2.2.1 en.2.2.2.2.2.1 s.heap (en.2.2.2.2.1.1, en.2.2.2.2.1.2.1, lo0, [], en.2.2.2.2.1.2.2.2.2) ρ s.heap [] ls [] → W p l e R s m args below meth c s.heap [] 0 0 (MQ below (nkQc (D, kd, Γ) en.2.2.2.2.2.1 en.2.2.2.2.2.2 en.2.2.2.2.1.1 ρ) args s 0 0 (nkA (D, kd, Γ))) (F0 m 0 ls [])) :
    nkMetI kd en := by
  unfold nk_hdB at h
  split at h
  · rename_i y hy
    rw [nk_nth_eq] at hy
    split at h
    · rename_i lo0 hlo0
      simp only [Bool.and_eq_true] at h
      obtain ⟨c1, c2, c3, c4⟩ := h
      refine ⟨fun y' hy' l D Γ ρ => ?_, Nat.eq_of_beq_eq_true c2, List.isEmpty_iff.mp c3, nk_altB_ok c4⟩
      rw [hy] at hy'
      cases hy'
      exact nk_metG (spt := spt) hy hlo0 (Nat.le_of_ble_eq_true c1) (Pg := fun _ => True) (fun a U q => ⟨q, trivial⟩) (fun hh hr hlk _ hR => hrun hlo0 ⟨hy, hh, hr, hlk⟩ hR)
    · cases h
  · cases h
/-! a call by any contract -/
section NK46
variable {p : Program} {l : Launch} {e : Env} {R : Room} {s : State} {m : MethodId} {args : Array Value} {below : List Frame} {meth : Method} {c : Code} {Q : State → Prop}
variable {cc : ByteArray} {E : nkE} {nL own : Nat} {Ws : nkWs} {H0 : Heap} {pc : Nat} {S : nkS}
theorem nk_callM (hF : nhFx p c s m args cc nL own E.1) {idx mn : Nat} {sta : Bool} {y : nhMth} (hy : nhMt[mn]? = some y) (hlk : (idx, mn) ∈ nhLn.getD own []) (hd : decode cc pc = .ok (cond sta (.invokestatic idx) (.invokevirtual idx), 3)) (hst : y.2.2.2.2.1 = sta) {fr lo : Nat} (hfr : fr + 1 ≤ R.frames) (hlo : 8 + (y.2.2.1 + 11) + lo ≤ R.locals)
    {Pc : Array Value → State → Prop} {Qc : Array Value → State → Outcome → State → Prop} (hMM : Met l y.1 (nhWs y) (nkRm fr lo) Pc Qc 0 0 (fun a => E.2.2 a < E.2.1.length)) (hblind : FrameBlind Pc) {vals : List Value} (hlen : vals.length = y.2.2.2.2.2 + cond sta 0 1) {H : Heap} {locs : List Loc} {ls : Array Slot} {rest : List Value} (hPre : ∀ U : State, U.heap = H → s.WarmedH U.vm → Pc vals.toArray U) (hls : ls.size = nL) (hcat : (rest.map fun v => v.category).sum ≤ 8)
    (hrecv : sta = false → ∃ (a : Nat) (as' : List Value) (ci : Nat) (r : vw_C) (N : Nat) (V : Nat → Value), vals = .ref a :: as' ∧ nhCl[ci]? = some r ∧ r.1 = y.1.cls ∧ t_OB a (E.1.1 ci) N (E.1.2.1 ci) H V)
    (k : ∀ (v : Option Value) (st t : State) (locs1 : List Loc), st.heap = H → Qc vals.toArray st (.returned v) t → (∀ q ∈ locs1, q ∈ locs ∨ E.2.2 q.base < E.2.1.length) → W p l e R s m args below meth c t.heap locs1 0 0 Q (F0 m (pc + 3) ls (v.toList ++ rest))) :
    W p l e R s m args below meth c H locs 0 0 Q (F0 m pc ls (vals.reverse ++ rest)) := by
  obtain ⟨hx, hb, hml, ⟨C, hC, hown⟩, hts, hK⟩ := hF
  obtain ⟨m1, m2, m3, m4, m5, m6⟩ := nh_mt_ok hy
  have hlink := nh_lk_ok hC hlk hy
  dsimp only at hlink
  have hB : CallB R s args C idx y.1 y.2.1 y.2.2.1 y.2.2.2.1 (nhWs y) (nkRm fr lo) 0 0 y.2.2.2.2.2 := callB_of y.2.2.2.2.2 hts (nhGoodIn m1) rfl rfl rfl (hts _ m2) (hts _ hlink) m5 ⟨hfr, hlo⟩
  have hfin : va_Run p l e R s m args below meth c H locs 0 0 0 0 (F0 m pc ls (vals.reverse ++ rest)) rest (Qc vals.toArray) (fun a => E.2.2 a < E.2.1.length) := by
    cases sta with
    | true =>
      exact va_runS (As := vals) (rest := rest) ⟨hx, hb, hml, hown, hts⟩ hMM ⟨hB, hts _ (m3 hst)⟩ ⟨hblind, hPre⟩ rfl (by rw [hlen]; rfl) hls rfl (lv_room hcat) hd ⟨Nat.zero_le _, Nat.zero_le _⟩
    | false =>
      obtain ⟨n1, n2⟩ := m4 hst
      obtain ⟨a, as', ci, r, N, V, rfl, hr, hrn, cell, q1, q2, q3, q4⟩ := hrecv rfl
      exact va_runV (b := a) (As := as') (rest := rest) ⟨hx, hb, hml, hown, hts⟩ hMM ⟨hB, hts _ n1, hts _ n2⟩ ⟨hblind, ⟨cell, q1, by rw [q3]; rfl, by rw [q2, ← hrn]; exact (hK.1 ci r hr).2.1⟩, hPre⟩ rfl (by
        have hlen : as'.length + 1 = y.2.2.2.2.2 + 1 := hlen
        omega) hls (by
        show (Value.ref a :: as').reverse ++ rest = _
        simp) (lv_room hcat) hd ⟨Nat.zero_le _, Nat.zero_le _⟩
  intro T hT X
  obtain ⟨v, st₀, t, T', L, h0, X', hL, e1, e2, hq, st⟩ := hfin T hT X
  obtain ⟨t2, a1, b1⟩ := k v st₀ t (locs ++ L) h0 hq (fun q hq => by
    rcases List.mem_append.mp hq with h | h
    · exact Or.inl h
    · exact Or.inr (hL q h)) T' e1 X'
  exact ⟨t2, st t2 a1, b1⟩
end NK46
/-- a call by one contract, at a place: what it binds, the states behind it -/
def nk_calH (kd : List nkKd) (own fr lo : Nat) (Ws : nkWs) (S : nkS) (i : Instr) (len : Nat) (en : nkIn) : Option (nkSg × List Nat) := match nk_inv i with
  | some q => match nk_find (nhLn.getD own []) q.1 with
    | some mn => match nk_nth nhMt mn with
      | some y => match Nat.beq len 3 && (nk_bq y.2.2.2.2.1 q.2 && (Nat.ble (y.2.2.2.2.2 + cond q.2 0 1) S.2.2.2.1.length && ((q.2 || nk_recv kd S (S.2.2.2.1.take (y.2.2.2.2.2 + 1)) mn) && nk_r8 S (S.2.2.2.1.drop (y.2.2.2.2.2 + cond q.2 0 1)) 3))) && Nat.beq en.1 mn with
        | true => match Nat.blt en.2.1 fr && (Nat.ble (8 + (y.2.2.1 + 11) + en.2.2.1) lo && (Nat.beq (S.2.2.2.1.take (y.2.2.2.2.2 + cond q.2 0 1)).length en.2.2.2.1 && nk_sub en.2.2.2.2.2.1 Ws)) with
          | true => match nk_bMe S.2.2.2.2.1 en.2.2.2.2.1.2.2.2.2.1 (en.2.2.2.1, S.2.2.2.1.take (y.2.2.2.2.2 + cond q.2 0 1)) with
            | some σ => match Nat.beq σ.1 en.2.2.2.2.1.1 && (nk_fitV S σ.2 en.2.2.2.2.1.2.1 && nk_diB S σ en.2.2.2.2.1.2.2.2.2.2.1) with
              | true => some (σ, S.2.2.2.1.drop (y.2.2.2.2.2 + cond q.2 0 1))
              | false => none
            | none => none
          | false => none
        | false => none
      | none => none
    | none => none
  | none => none
theorem nk_callH {p : Program} {l : Launch} {e : Env} {R : Room} {s : State} {m : MethodId} {args : Array Value} {below : List Frame} {meth : Method} {c : Code} {Q : State → Prop} {cc : ByteArray} {E : nkE} {M : nkMd} {fr lo : Nat} {Ws : nkWs} {H0 : Heap} {pc : Nat} {S : nkS} (hh : nkHy p R s m args c cc E M fr lo) (hun0 : ∀ q : Nat, E.2.1.length ≤ E.2.2 q → H0[q]? = s.heap[q]?) {q0 : Instr × Nat} (hdk : nk_dk M.2.2.1 pc = some q0) {en : nkIn} {σ : nkSg} {rest : List Nat} (h : nk_calH E.2.1 M.1 fr lo Ws S q0.1 q0.2 en = some (σ, rest))
    {Pg : nkE → (Nat → Value) → Heap → Prop} {Qg : nkE → (Nat → Value) → Heap → Heap → Option Value → nkS → (Nat → Value) → Prop} (hM : nkMetG E.2.1 en Pg Qg) {ρ : Nat → Value} {H : Heap} {locs : List Loc} {ls : Array Slot} {st : List Value} (hR : nkR E M.2.1 Ws H0 S ρ H locs ls st) (hPg : Pg E (nk_pk σ ρ) H)
    (k : ∀ F ∈ en.2.2.2.2.2.2, ∀ (S' : nkS) (ρ' ρ2 : Nat → Value) (H1 : Heap) (locs1 : List Loc) (st1 : List Value) (v : Option Value), nk_aft S rest σ.1 σ en.2.2.2.2.2.1 F = some S' → S.1 ≤ S'.1 → nkX S.1 ρ ρ2 → (∀ i, ρ2 (S.1 + i) = ρ' (σ.1 + i)) → nkX σ.1 (nk_pk σ ρ) ρ' → nkR E M.2.1 Ws H0 S' ρ2 H1 locs1 ls (v.toList ++ st1) → nkFr E en.2.2.2.2.2.1 H H1 [] → Qg E (nk_pk σ ρ) H H1 v F ρ' → W p l e R s m args below meth c H1 locs1 0 0 Q (F0 m (pc + 3) ls (v.toList ++ st1))) :
    W p l e R s m args below meth c H locs 0 0 Q (F0 m pc ls st) := by
  obtain ⟨hF, hZ, hdt, hR1, hR2⟩ := hh
  have hd : decode cc pc = .ok (q0.1, q0.2) := hdt pc q0 hdk
  generalize q0.1 = i at h hd
  generalize q0.2 = len at h hd
  unfold nk_calH at h
  split at h
  · rename_i q hq
    split at h
    · rename_i mn hmn
      split at h
      · rename_i y hy
        rw [nk_nth_eq] at hy
        split at h
        · rename_i hc
          simp only [Bool.and_eq_true] at hc
          obtain ⟨⟨c1, c2, c3, c4, c5⟩, hen2⟩ := hc
          have c1 := Nat.eq_of_beq_eq_true c1
          have c2 := nk_bq_ok c2
          have c3 := Nat.le_of_ble_eq_true c3
          have hen2 := Nat.eq_of_beq_eq_true hen2
          subst c1
          have hd' : decode cc pc = .ok (cond q.2 (.invokestatic q.1) (.invokevirtual q.1), 3) := by
            unfold nk_inv at hq
            split at hq
            · cases hq; exact hd
            · cases hq; exact hd
            · cases hq
          generalize hna : y.2.2.2.2.2 + cond q.2 0 1 = na at *
          obtain ⟨r1, -⟩ := nk_r8_ok (E := E) hR.1.1 c5
          have hst : st = (S.2.2.2.1.take na).map ρ ++ (S.2.2.2.1.drop na).map ρ := by
            rw [← List.map_append, List.take_append_drop]
            exact hR.2.2.1.1
          have hrest : nkSt S.1 ρ (S.2.2.2.1.drop na) ((S.2.2.2.1.drop na).map ρ) := ⟨rfl, fun i hi => hR.2.2.1.2 i (List.mem_of_mem_drop hi)⟩
          have hlen : (S.2.2.2.1.take na).length = na := by rw [List.length_take]; omega
          have hun : ∀ q : Nat, E.2.1.length ≤ E.2.2 q → H[q]? = s.heap[q]? := fun q hq => (hR.2.2.2.2.1 q hq).trans (hun0 q hq)
          have hrecv : q.2 = false → ∃ (a : Nat) (as' : List Value) (ci : Nat) (r : vw_C) (N : Nat) (V : Nat → Value), ((S.2.2.2.1.take na).map ρ).reverse = .ref a :: as' ∧ nhCl[ci]? = some r ∧ r.1 = y.1.cls ∧ t_OB a (E.1.1 ci) N (E.1.2.1 ci) H V := fun hs => by
            rw [hs] at c4 hna
            have hna : y.2.2.2.2.2 + 1 = na := hna
            rw [hna] at c4
            exact nk_recv_ok hy hR.1.1 hR.1.2.2.2.2 (by simpa using c4)
          rw [hst]
          have hrr : (S.2.2.2.1.take na).map ρ = (((S.2.2.2.1.take na).map ρ).reverse).reverse := (List.reverse_reverse _).symm
          rw [hrr]
          obtain ⟨hMet, hM2, hM3, hM4⟩ := hM
          split at h
          · rename_i hc2
            simp only [Bool.and_eq_true] at hc2
            obtain ⟨d1, d2, d3, d4⟩ := hc2
            have d1 := nk_blt d1
            have d2 := Nat.le_of_ble_eq_true d2
            have d3 := Nat.eq_of_beq_eq_true d3
            split at h
            · rename_i σ' hσ
              split at h
              · rename_i hc3
                simp only [Bool.and_eq_true] at hc3
                obtain ⟨f1, f2, f3⟩ := hc3
                have f1 := Nat.eq_of_beq_eq_true f1
                cases h
                obtain ⟨b1, b2⟩ := nk_bMe_ok hR.1.2.1 hσ
                obtain ⟨g1, g2⟩ := nk_fitV_ok (n := σ.1) hR.1.1 f2
                have hT : nkT E en.2.2.2.2.1 (nk_pk σ ρ) H := by
                  refine ⟨fun i w hi => ?_, ?_, ?_, ?_, hR.1.2.2.2.2⟩
                  · rw [← f1] at hi
                    obtain ⟨j, j1, j2⟩ := g2 i w hi
                    rw [nk_pk_at j1]
                    exact j2
                  · rw [← f1]
                    exact b2 σ (nkSX.rf _)
                  · rw [← f1]
                    exact nk_diB_ok hR.1.1 hR.1.2.2.1 f3
                  · rw [hM3]
                    exact fun q hq => by cases hq
                have hvals : (List.range en.2.2.2.1).map (nk_pk σ ρ) = ((S.2.2.2.1.take na).map ρ).reverse := by
                  rw [← List.map_reverse]
                  apply List.ext_getElem?
                  intro i
                  rw [List.getElem?_map, List.getElem?_map, ← nk_g_rev, d3]
                  by_cases hi : i < en.2.2.2.1
                  · rw [List.getElem?_range hi]
                    obtain ⟨v, hv⟩ := nk_g_some (l := S.2.2.2.1.take na) (n := en.2.2.2.1) (by omega) hi
                    rw [hv]
                    show some _ = some _
                    rw [nk_pk_at (b1 _ _ hv)]
                  · rw [List.getElem?_eq_none (by simp; omega)]
                    cases hg : nk_g (S.2.2.2.1.take na) en.2.2.2.1 i with
                    | none => rfl
                    | some v => exact absurd (nk_g_lt hg) hi
                have hMM := hMet y (by rw [hen2]; exact hy) l E.1 E.2.2 (nk_pk σ ρ)
                refine nk_callM hF hy (nk_find_ok hmn) hd' c2 (fr := en.2.1) (lo := en.2.2.1) (by omega) (by omega) hMM (nkPg_blind _ _ _ _ _) (by rw [List.length_reverse, List.length_map, hlen, ← hna]) (fun U hU hW => ⟨⟨by rw [← hvals], by rw [hU]; exact hT, hF.2.2.2.2.2.moved hW.alike, hZ.to hW (fun q hq => by rw [hU]; exact hun q hq)⟩, by rw [hU]; exact hPg⟩) hR.2.1.1 r1 hrecv (fun v st0 t locs1 h0 hQ hl1 => ?_)
                obtain ⟨⟨v', F, ρ', hv, hF1, hF2, hF3, hF4, hF5, hG⟩, hFr⟩ := hQ
                cases hv
                rw [h0] at hFr hG
                obtain ⟨q1, q2⟩ := hM4 F hF1
                have hσl : σ.2.length = σ.1 := by
                  have := nk_fitV_len f2
                  rw [this, hM2, f1]
                obtain ⟨S', a1, a2, ρ2, a3, a4, a5⟩ := nk_aft_ok (np := σ.1) (σ := σ) (alt := F) hR hrest rfl hσl g1 q1 (by rw [f1]; exact q2) (by rw [f1]; exact hF3) hF4 hF5 hFr d4 hl1
                exact k F hF1 S' ρ' ρ2 t.heap locs1 _ v a1 a2 a3 a5 (by rw [f1]; exact hF3) a4 hFr hG
              · cases h
            · cases h
          · cases h
        · cases h
      · cases h
    · cases h
  · cases h
/-! segments with a frame of their own -/
theorem nkR.reb {E : nkE} {nL : Nat} {Ws Ws' : nkWs} {H0 : Heap} {S : nkS} {ρ : Nat → Value} {H : Heap} {locs : List Loc} {ls : Array Slot} {st : List Value} (h : nkR E nL Ws H0 S ρ H locs ls st) : nkR E nL Ws' H S ρ H locs ls st := ⟨h.1, h.2.1, h.2.2.1, rfl, fun _ _ => rfl, h.2.2.2.2.2.1, nkKp.rf _ _ _⟩
theorem nkFr.nil {E : nkE} {Ws : nkWs} {H0 H : Heap} {locs : List Loc} (h : nkFr E Ws H0 H locs) : nkFr E Ws H0 H [] := ⟨h.1, h.2.1, (fun q hq => by cases hq), h.2.2.2⟩
theorem nkFr.thn {E : nkE} {Wc Ws : nkWs} {H0 H H1 : Heap} {locs locs1 : List Loc} (h : nkFr E Ws H0 H locs) (g : nkFr E Wc H H1 locs1) (hs : nk_sub Wc Ws = true) : nkFr E Ws H0 H1 locs1 := h.then g.nil hs (fun q hq => Or.inr (g.2.2.1 q hq))
theorem nk_segH {kd : List nkKd} {IT : List nkIn} {spt : List (Nat × nkSp)} (hIT : ∀ en ∈ IT, nkMetI kd en) {mn : Nat} {y : nhMth} {fr lo : Nat} {Wg Ws : nkWs} {ces : List nkCe} {np : Nat} {alts : List nkS} {fuel : Nat} {S : nkS} {pc : Nat} (h : nk_sgM kd IT spt mn fr lo Wg ces np alts fuel S pc = true) (hs : nk_sub Wg Ws = true)
    {p : Program} {l : Launch} {e : Env} {R : Room} {s : State} {m : MethodId} {args : Array Value} {below : List Frame} {meth : Method} {c : Code} {cc : ByteArray} {D : nhD} {Γ : Nat → Nat} {Qc : Array Value → State → Outcome → State → Prop} (hh : nkHc2 p R s m args meth c cc (D, kd, Γ) spt mn y fr lo)
    {ρ : Nat → Value} {H : Heap} {locs : List Loc} {ls : Array Slot} {st : List Value} (hR : nkR (D, kd, Γ) y.2.2.1 Ws s.heap S ρ H locs ls st)
    (k : ∀ ce ∈ ces, ∀ (ρ2 : Nat → Value) (H2 : Heap) (locs2 : List Loc) (ls2 : Array Slot) (st2 : List Value), nkX np ρ ρ2 → nkR (D, kd, Γ) y.2.2.1 Ws s.heap ce.2.1 ρ2 H2 locs2 ls2 st2 → nkFr (D, kd, Γ) Wg H H2 [] → W p l e R s m args below meth c H2 locs2 0 0 (MQ below Qc args s 0 0 (nkA (D, kd, Γ))) (F0 m ce.1 ls2 st2))
    (kr : ∀ a ∈ alts, ∀ (ρ2 : Nat → Value) (H2 : Heap) (v : Option Value) (t : State), nkX np ρ ρ2 → nkT (D, kd, Γ) a ρ2 H2 → nkFr (D, kd, Γ) Wg H H2 [] → nkFr (D, kd, Γ) Ws s.heap H2 [] → nkRt a ρ2 v → t.heap = H2 → Qc args s (.returned v) t) :
    W p l e R s m args below meth c H locs 0 0 (MQ below Qc args s 0 0 (nkA (D, kd, Γ))) (F0 m pc ls st) := by
  obtain ⟨hy, hh, hr, hlk⟩ := hh
  refine nk_seg hIT (nk_sgM_ok h hy) rfl hh hr hlk (H0 := H) (fun q hq => hR.2.2.2.2.1 q hq) hR.reb (fun ce hce ρ2 H2 locs2 ls2 st2 hX hR2 => ?_) (fun a ha ρ2 H2 v t hX hT hF hv ht => ?_)
  · have hF := hR.2.2.2.thn hR2.2.2.2 hs
    exact k ce hce ρ2 H2 locs2 ls2 st2 hX ⟨hR2.1, hR2.2.1, hR2.2.2.1, hF⟩ hR2.2.2.2.nil
  · exact kr a ha ρ2 H2 v t hX hT hF (hR.2.2.2.thn hF hs) hv ht
/-! cells and facts -/
theorem nk_all_cons {Γ : Nat → Nat} {n : Nat} {vs : List nkV} {v : nkV} {ρ : Nat → Value} (hv : nkOk Γ v (ρ n)) (h : nkAll Γ n vs ρ) : nkAll Γ (n + 1) (v :: vs) ρ := fun i w hi => by
  rw [nk_g_push] at hi
  split at hi
  · rename_i e
    cases hi
    subst e
    exact hv
  · exact h i w hi
theorem nk_all_nil (Γ : Nat → Nat) (ρ : Nat → Value) : nkAll Γ 0 [] ρ := fun i w hi => by cases hi
theorem nk_meA {E : nkE} {n : Nat} {ρ : Nat → Value} {H : Heap} {me : List nkMm} {o f x : Nat} (h : nkMe E n ρ H me) (hq : (o, f, x) ∈ me) {a : Nat} (ea : ρ o = .ref a) {ti N P : Nat} {els : List nkV} (hk : E.2.1[E.2.2 a]? = some (1, ti, N, P, els)) {ty : ClassId} {z : Nat → Value} (hz : H[a]? = some (arrV ty N z)) : ρ x = z f := by
  obtain ⟨-, -, a', k', cell, e1, e2, e3, e4, e5⟩ := h _ hq
  dsimp only at e1 e3 e5
  rw [ea] at e1
  cases e1
  rw [hk] at e2
  cases e2
  rw [hz] at e4
  cases e4
  have e6 : nkSl E.1 (1, ti, N, P, els) f = f := rfl
  rw [e6, arrV_read _ _ e3] at e5
  exact (Option.some.inj e5).symm
theorem nk_kpA {E : nkE} {Ws : nkWs} {H0 H : Heap} (h : nkKp E Ws H0 H) {a ti N P : Nat} {els : List nkV} (hk : E.2.1[E.2.2 a]? = some (1, ti, N, P, els)) {ty ty' : ClassId} {z0 z : Nat → Value} {j : Nat} (ho : nk_off Ws (E.2.2 a) j = true) (hj : j < N) (h0 : H0[a]? = some (arrV ty N z0)) (h1 : H[a]? = some (arrV ty' N z)) : z j = z0 j := by
  have e6 : nkSl E.1 (1, ti, N, P, els) j = j := rfl
  obtain ⟨c', e1, e2⟩ := h a _ j _ (z0 j) hk hj ho h0 (by rw [e6]; exact arrV_read _ _ hj)
  rw [h1] at e1
  cases e1
  rw [e6, arrV_read _ _ hj] at e2
  exact Option.some.inj e2
