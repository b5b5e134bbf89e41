/-! THE RUN IS SOUND -/
/-- an instance's contract, and that its ends are as they should be -/
def nkMetI (kd : List nkKd) (en : nkIn) : Prop := (∀ y, nhMt[en.1]? = some y → nkMet kd y en.2.1 en.2.2.1 (List.range en.2.2.2.1) en.2.2.2.2.1 en.2.2.2.2.2.1 en.2.2.2.2.2.2) ∧ en.2.2.2.2.1.2.1.length = en.2.2.2.2.1.1 ∧ en.2.2.2.2.1.2.2.2.2.2.2 = [] ∧ ∀ alt ∈ en.2.2.2.2.2.2, alt.2.1.length = alt.1 ∧ en.2.2.2.2.1.1 ≤ alt.1
theorem nk_pick_ok {nLy fr lo : Nat} {Ws : nkWs} {S : nkS} {rest as : List Nat} {mn : Nat} {L : List nkS} : ∀ {IT : List nkIn}, nk_pick nLy fr lo Ws S rest as mn IT = some L → ∃ en ∈ IT, en.1 = mn ∧ nk_one en nLy fr lo Ws S rest as = some L
  | [], h => by cases h
  | en :: r, h => by
    unfold nk_pick at h
    split at h
    · rename_i e
      split at h
      · rename_i L' hL
        cases h
        exact ⟨en, List.mem_cons_self, Nat.eq_of_beq_eq_true e, hL⟩
      · obtain ⟨en', h1, h2⟩ := nk_pick_ok h
        exact ⟨en', List.mem_cons_of_mem _ h1, h2⟩
    · obtain ⟨en', h1, h2⟩ := nk_pick_ok h
      exact ⟨en', List.mem_cons_of_mem _ h1, h2⟩
theorem nk_back_mem {S : nkS} {rest : List Nat} {F : nkS} : ∀ {L : List nkS}, F ∈ L → (F.1, F.2.1, S.2.2.1, F.2.2.2.1 ++ rest, F.2.2.2.2) ∈ nk_back S rest L
  | [], h => by cases h
  | G :: r, h => by
    unfold nk_back
    rcases List.mem_cons.mp h with rfl | h
    · exact List.mem_cons_self
    · exact List.mem_cons_of_mem _ (nk_back_mem h)
theorem nk_at3_mem {pc : Nat} {S : nkS} : ∀ {L : List nkS}, S ∈ L → (S, pc) ∈ nk_at3 pc L
  | [], h => by cases h
  | G :: r, h => by
    unfold nk_at3
    rcases List.mem_cons.mp h with rfl | h
    · exact List.mem_cons_self
    · exact List.mem_cons_of_mem _ (nk_at3_mem h)
theorem nk_recv_ok {E : nkE} {S : nkS} {ρ : Nat → Value} {H : Heap} {mn : Nat} {y : nhMth} (hy : nhMt[mn]? = some y) (hA : nkAll E.2.2 S.1 S.2.1 ρ) (hH : nkH E H) : ∀ {as : List Nat}, nk_recv E.2.1 S as mn = true → ∃ (a : Nat) (as' : List Value) (ci : Nat) (r : vw_C) (N : Nat) (V : Nat → Value), (as.map ρ).reverse = .ref a :: as' ∧ nhCl[ci]? = some r ∧ r.1 = y.1.cls ∧ t_OB a (E.1.1 ci) N (E.1.2.1 ci) H V
  | [], h => by cases h
  | [o], h => by
    unfold nk_recv at h
    split at h
    · rename_i kn cc hkn hcc
      split at h
      · rename_i k hk
        rw [nk_nth_eq] at hk hcc
        rw [Bool.and_eq_true, Bool.and_eq_true] at h
        have h1 := Nat.eq_of_beq_eq_true h.1
        have h2 := Nat.eq_of_beq_eq_true h.2.1
        obtain ⟨-, a, ea, eΓ⟩ := nk_kn_ok (E := E) hA hkn
        have hcell := hH.1 a k (by rw [eΓ]; exact hk)
        obtain ⟨o', ho1, ho2⟩ := nhMo_ok hy
        rw [hcc] at ho1
        cases ho1
        obtain ⟨t, ci, N, P, avs⟩ := k
        dsimp only at h1 h2
        subst h1 h2
        obtain ⟨V, hV1, -⟩ := hcell
        have h3 := h.2.2
        rw [Bool.and_eq_true] at h3
        have hlt : ci < 13 := nk_blt h3.1
        have h8 : ci ≠ 8 := fun q => by
          subst q
          exact absurd h3.2 (by decide)
        obtain ⟨r, hr⟩ : ∃ r, nhCl[ci]? = some r := ⟨_, List.getElem?_eq_getElem hlt⟩
        exact ⟨a, [], ci, r, N, V, by simp [ea], hr, nhCl_name hr ho2 h8, hV1⟩
      · cases h
    · cases h
  | o :: o2 :: r, h => by
    unfold nk_recv at h
    obtain ⟨a, as', ci, rr, N, V, h1, h2⟩ := nk_recv_ok hy hA hH h
    refine ⟨a, as' ++ [ρ o], ci, rr, N, V, ?_, h2⟩
    rw [List.map_cons, List.reverse_cons, h1]
    rfl
theorem nk_lo0_ok {E : nkE} {S : nkS} {ρ : Nat → Value} (hA : nkAll E.2.2 S.1 S.2.1 ρ) : ∀ {as : List Nat} {n : Nat} {lo : List (Nat × Nat)}, nk_lo0 S n as = some lo → (∀ j ∈ as, j < S.1) ∧ (∀ q ∈ lo, q.2 < S.1 ∧ (q.1, ρ q.2) ∈ lv_args n (as.map ρ)) ∧ (lg_sl (as.map ρ)).length = nk_wid S as
  | [], n, lo, h => by
    cases h
    exact ⟨fun j hj => (by cases hj), fun q hq => (by cases hq), rfl⟩
  | j :: r, n, lo, h => by
    unfold nk_lo0 at h
    split at h
    · rename_i v hv
      have hlt := nk_g_lt hv
      have hok := hA j v hv
      have key : ∀ (d : Nat) (l : List (Nat × Nat)), (if (ρ j).category = 2 then n + 2 else n + 1) = n + d → (lg_sl [ρ j]).length = d → nk_w1 v = d → nk_lo0 S (n + d) r = some l → lo = (n, j) :: l → (∀ i ∈ j :: r, i < S.1) ∧ (∀ q ∈ lo, q.2 < S.1 ∧ (q.1, ρ q.2) ∈ lv_args n ((j :: r).map ρ)) ∧ (lg_sl ((j :: r).map ρ)).length = nk_wid S (j :: r) := by
        intro d l e1 e2 e3 hl hlo
        obtain ⟨k1, k2, k3⟩ := nk_lo0_ok hA hl
        subst hlo
        refine ⟨fun i hi => ?_, fun q hq => ?_, ?_⟩
        · rcases List.mem_cons.mp hi with rfl | hi
          · exact hlt
          · exact k1 i hi
        · rw [List.map_cons, lv_args]
          rcases List.mem_cons.mp hq with rfl | hq
          · exact ⟨hlt, List.mem_cons_self⟩
          · rw [e1]
            exact ⟨(k2 q hq).1, List.mem_cons_of_mem _ (k2 q hq).2⟩
        · rw [nk_wid, hv]
          dsimp only
          rw [e3, ← k3, ← e2]
          simp only [lg_sl, List.map_cons, List.flatMap_cons, List.flatMap_nil, List.length_append, List.append_nil]
      split at h
      · rename_i hc
        split at h
        · rename_i l hl
          cases h
          have c1 := nk_cat1 hok (Or.inl hc)
          obtain ⟨a, ea⟩ := (nk_cat_ok hok).1 hc
          exact key 1 l (by rw [c1]; rfl) (by rw [ea]; rfl) (by unfold nk_w1; rw [hc]; rfl) hl rfl
        · cases h
      · rename_i hc
        split at h
        · rename_i l hl
          cases h
          obtain ⟨a, ea⟩ := (nk_cat_ok hok).2.1 hc
          exact key 2 l (by rw [ea]; rfl) (by rw [ea]; rfl) (by unfold nk_w1; rw [hc]; rfl) hl rfl
        · cases h
      · rename_i hc
        split at h
        · rename_i l hl
          cases h
          have c1 := nk_cat1 hok (Or.inr hc)
          refine key 1 l (by rw [c1]; rfl) ?_ (by unfold nk_w1; rw [hc]; rfl) hl rfl
          rcases (nk_cat_ok hok).2.2 hc with ea | ⟨a, ea⟩
          · rw [ea]; rfl
          · rw [ea]; rfl
        · cases h
      · cases h
    · cases h
/-- what a walk stands on -/
def nkHy (p : Program) (R : Room) (s : State) (m : MethodId) (args : Array Value) (c : Code) (cc : ByteArray) (E : nkE) (M : nkMd) (fr lo : Nat) : Prop :=
  nhFx p c s m args cc M.2.1 M.1 E.1 ∧ nkZ E s ∧ (∀ (pc : Nat) (q : Instr × Nat), nk_dk M.2.2.1 pc = some q → decode cc pc = .ok q) ∧ R.frames = fr ∧ R.locals = lo
/-- a contract out of a walk -/
theorem nk_metOf {kd : List nkKd} {mn : Nat} {y : nhMth} (hy : nhMt[mn]? = some y) {spt : List (Nat × nkSp)} {fr lo : Nat} {Ws : nkWs} {as : List Nat} {S : nkS} {lo0 : List (Nat × Nat)} {Fs : List nkS} (hlo : nk_lo0 S 0 as = some lo0) (hw : nk_wid S as ≤ y.2.2.1)
    (hrun : ∀ {p : Program} {l : Launch} {e : Env} {R : Room} {s : State} {m : MethodId} {args : Array Value} {below : List Frame} {meth : Method} {c : Code} {cc : ByteArray} {E : nkE} {ρ : Nat → Value}, E.2.1 = kd → nkHy p R s m args c cc E (nk_md spt mn y) fr lo → meth.sig.returnType = y.2.2.2.1 → meth.locks = false → nkGo p l e R s m args below meth c (MQ below (nkQc E Ws Fs S.1 ρ) args s 0 0 (nkA E)) E y.2.2.1 Ws s.heap S.1 ρ 0 (S.1, S.2.1, lo0, [], S.2.2.2.2)) :
    nkMet kd y fr lo as S Ws Fs := by
  intro l D Γ ρ
  obtain ⟨m1, m2, m3, m4, m5, m6⟩ := nh_mt_ok hy
  refine Met.ofW (cc := y.2.1) (maxL := y.2.2.1) (ret := y.2.2.2.1) m6 rfl ?_
  intro p e s m args below meth c s₁ B hml hv
  obtain ⟨rfl, hT, hK, hZ⟩ := hv
  have hts := atoms_spec (ws := nhWs y) B.pre
  have hts' : ∀ w ∈ nhTb, w.before (as.map ρ).toArray s = true := fun w hw => hts w (List.mem_cons_of_mem _ hw)
  obtain ⟨o, ho1, ho2⟩ := nhMo_ok hy
  have hmd1 : (nk_md spt mn y).1 = o := by
    show nk_nD nhMo mn 99 = o
    unfold nk_nD
    rw [nk_nth_eq, ho1]
  have hdt : nh_dtB y.2.1 (nk_md spt mn y).2.2.1 = true := by
    have h1 := nhZ.at nhDz hy
    have e1 : (nk_md spt mn y).2.2.1 = nhDa.getD mn [] := by
      show nk_nD nhDa mn [] = _
      unfold nk_nD
      rw [nk_nth_eq, List.getD_eq_getElem?_getD]
      cases nhDa[mn]? <;> rfl
    rw [e1]
    exact h1
  have hF : nhFx p c s m (as.map ρ).toArray y.2.1 (nk_md spt mn y).2.1 (nk_md spt mn y).1 D := ⟨B.exec, B.bytes, hml, ⟨_, by rw [hmd1]; exact ho2, findClass_of_methodNamed B.named⟩, hts', hK⟩
  obtain ⟨k1, k2, k3⟩ := nk_lo0_ok (E := (D, kd, Γ)) hT.1 hlo
  have hlv := lv_entry (as.map ρ) (n := y.2.2.1) (by rw [k3]; exact hw)
  rw [lg_entry_eq]
  generalize (lg_sl (as.map ρ) ++ List.replicate (y.2.2.1 - (lg_sl (as.map ρ)).length) Slot.unset).toArray = ls at hlv ⊢
  exact hrun (E := (D, kd, Γ)) (ρ := ρ) (l := l) (e := e) (below := below) rfl ⟨hF, hZ, fun _ _ hq => nk_dk_ok hdt hq, rfl, rfl⟩ B.returns B.notSynchronized (Nat.le_refl _) ρ s.heap [] ls [] (nkX.rf _ _) ⟨hT, ⟨hlv.1, hlv.2.1, fun q hq => ⟨(k2 q hq).1, hlv.2.2 _ (k2 q hq).2⟩⟩, ⟨rfl, fun i hi => by cases hi⟩, rfl, fun _ _ => rfl, (fun q hq => by cases hq), nkKp.rf _ _ _⟩
