/-! THE RUN IS SOUND, and a method's check -/
theorem nk_mpM_ok {ρ : Nat → Value} {σ : nkSg} : ∀ {ms ms' : nkMs}, nk_mpM σ ms = some ms' → nk_num (nk_pk σ ρ) ms = nk_num ρ ms' ∧ ms.length = ms'.length
  | [], ms', h => by cases h; exact ⟨rfl, rfl⟩
  | q :: r, ms', h => by
    unfold nk_mpM at h
    split at h
    · rename_i r' hr
      obtain ⟨k1, k2⟩ := nk_mpM_ok (ρ := ρ) hr
      have key : ∀ q', nk_mv (nk_pk σ ρ) q = nk_mv ρ q' → ms' = q' :: r' → nk_num (nk_pk σ ρ) (q :: r) = nk_num ρ ms' ∧ (q :: r).length = ms'.length := fun q' e1 e2 => by
        subst e2
        refine ⟨?_, by rw [List.length_cons, List.length_cons, k2]⟩
        rw [nk_num, nk_num, e1, k1, k2]
      obtain ⟨t, v, b⟩ := q
      dsimp only at h
      split at h
      · cases h
        exact key _ rfl rfl
      · rename_i ht
        split at h
        · rename_i j hj
          cases h
          refine key _ ?_ rfl
          unfold nk_mv
          dsimp only
          rw [nk_pk_at hj]
        · cases h
    · cases h
theorem nk_isC_no {ces : List nkCe} {pc : Nat} : True := trivial
theorem nk_ceds_ok {np : Nat} {om : Option nkMs} {S : nkS} {pc : Nat} : ∀ {ces : List nkCe}, nk_ceds np om S pc ces = true → ∃ ce ∈ ces, ce.1 = pc ∧ nk_ced np om S ce = true
  | [], h => by cases h
  | ce :: r, h => by
    unfold nk_ceds at h
    split at h
    · rename_i e
      rw [Bool.and_eq_true] at e
      exact ⟨ce, List.mem_cons_self, Nat.eq_of_beq_eq_true e.1, e.2⟩
    · obtain ⟨ce', h1, h2⟩ := nk_ceds_ok h
      exact ⟨ce', List.mem_cons_of_mem _ h1, h2⟩
theorem nk_gos_ok {C : nkCs} {run : nkS → Option (List nkS)} {pc : Nat} : ∀ {Ss : List nkS} {L : List nkS} {S : nkS}, nk_gos C run pc Ss = some L → S ∈ Ss → ∃ a, nk_go C run S pc = some a ∧ ∀ F ∈ a, F ∈ L
  | [], _, _, _, h => by cases h
  | T :: r, L, S, h, hS => by
    unfold nk_gos at h
    split at h
    · rename_i a ha
      split at h
      · rename_i b hb
        cases h
        rcases List.mem_cons.mp hS with rfl | hS
        · exact ⟨a, ha, fun F hF => List.mem_append_left _ hF⟩
        · obtain ⟨a', h1, h2⟩ := nk_gos_ok hb hS
          exact ⟨a', h1, fun F hF => List.mem_append_right _ (h2 F hF)⟩
      · cases h
    · cases h
theorem nk_all_mem {kd : List nkKd} {C : nkCs} {sp : nkSp} {run : Nat → nkS → Option (List nkS)} : ∀ {Q : nkSu} {L : List nkS} {q : nkS × Nat}, nk_all kd C sp run Q = some L → q ∈ Q → ∃ a, nk_gos C (run q.2) q.2 (nk_spl kd sp q.2 q.1) = some a ∧ ∀ F ∈ a, F ∈ L
  | [], _, _, _, h => by cases h
  | w :: r, L, q, h, hq => by
    unfold nk_all at h
    split at h
    · rename_i a ha
      split at h
      · rename_i b hb
        cases h
        rcases List.mem_cons.mp hq with rfl | hq
        · exact ⟨a, ha, fun F hF => List.mem_append_left _ hF⟩
        · obtain ⟨a', h1, h2⟩ := nk_all_mem hb hq
          exact ⟨a', h1, fun F hF => List.mem_append_right _ (h2 F hF)⟩
      · cases h
    · cases h
section NK43
variable {p : Program} {l : Launch} {e : Env} {R : Room} {s : State} {m : MethodId} {args : Array Value} {below : List Frame} {meth : Method} {c : Code}
variable {cc : ByteArray} {E : nkE} {nL : Nat} {Ws : nkWs} {H0 : Heap} {n0 : Nat} {ρ0 ρp : Nat → Value} {Qc : Array Value → State → Outcome → State → Prop}
/-- what is known of the certificates -/
def nkKc (p : Program) (l : Launch) (e : Env) (R : Room) (s : State) (m : MethodId) (args : Array Value) (below : List Frame) (meth : Method) (c : Code) (Qc : Array Value → State → Outcome → State → Prop) (E : nkE) (nL : Nat) (Ws : nkWs) (H0 : Heap) (ρ0 ρp : Nat → Value) (C : nkCs) : Prop :=
  ∀ ce ∈ C.1, ∀ (ρ : Nat → Value) (H : Heap) (locs : List Loc) (ls : Array Slot) (st : List Value), nkX C.2.1 ρp ρ → nkR E nL Ws H0 ce.2.1 ρ H locs ls st → (∀ ms, C.2.2 = some ms → nk_num ρ ce.2.2 < nk_num ρ0 ms) → W p l e R s m args below meth c H locs 0 0 (MQ below Qc args s 0 0 (nkA E)) (F0 m ce.1 ls st)
/-- what is known of the ends -/
def nkFin (s : State) (args : Array Value) (Qc : Array Value → State → Outcome → State → Prop) (E : nkE) (nL : Nat) (Ws : nkWs) (H0 : Heap) (n0 : Nat) (ρ0 : Nat → Value) (L : List nkS) : Prop :=
  ∀ F ∈ L, ∀ (ρ : Nat → Value) (H : Heap) (locs : List Loc) (ls : Array Slot) (st : List Value) (v : Option Value) (t : State), nkX n0 ρ0 ρ → n0 ≤ F.1 → nkR E nL Ws H0 F ρ H locs ls st → nkRt F ρ v → t.heap = H → Qc args s (.returned v) t
theorem nkFin.sub {L L' : List nkS} (h : nkFin s args Qc E nL Ws H0 n0 ρ0 L) (hs : ∀ F ∈ L', F ∈ L) : nkFin s args Qc E nL Ws H0 n0 ρ0 L' := fun F hF => h F (hs F hF)
theorem nk_all_ok {C : nkCs} {sp : nkSp} {run : Nat → nkS → Option (List nkS)} {Q : nkSu} {L : List nkS} (h : nk_all E.2.1 C sp run Q = some L) (hnp : C.2.1 ≤ n0) (hp : nkX C.2.1 ρp ρ0) (hK : nkKc p l e R s m args below meth c Qc E nL Ws H0 ρ0 ρp C) (hms : ∀ ms, C.2.2 = some ms → ∀ ρ, nkX n0 ρ0 ρ → nk_num ρ ms = nk_num ρ0 ms) (hQ : nkFin s args Qc E nL Ws H0 n0 ρ0 L)
    (ih : ∀ (S : nkS) (pc : Nat) (L' : List nkS), run pc S = some L' → nkFin s args Qc E nL Ws H0 n0 ρ0 L' → nkGo p l e R s m args below meth c (MQ below Qc args s 0 0 (nkA E)) E nL Ws H0 n0 ρ0 pc S) :
    ∀ q ∈ Q, nkGo p l e R s m args below meth c (MQ below Qc args s 0 0 (nkA E)) E nL Ws H0 n0 ρ0 q.2 q.1 := by
  intro q hq hn ρ H locs ls st hρ hR
  obtain ⟨a, h1, h2⟩ := nk_all_mem h hq
  obtain ⟨S', k1, k2, ρ', k4, k3⟩ := nk_spl_ok (pc := q.2) hR (sp := sp)
  have hρ' := hρ.tr hn k4
  obtain ⟨a', h3, h4⟩ := nk_gos_ok h1 k1
  unfold nk_go at h3
  split at h3
  · rename_i hc
    · rw [Bool.and_eq_true] at hc
      obtain ⟨ce, c1, c2, c3⟩ := nk_ceds_ok hc.2
      unfold nk_ced at c3
      split at c3
      · rename_i σ hσ
        obtain ⟨e1, e2, e3, e4⟩ := nk_ent_ok hσ k3
        rw [← c2]
        refine hK ce c1 _ H locs ls st ?_ e1 (fun ms hms' => ?_)
        · intro i hi
          rw [e2 i hi, hρ' i (Nat.lt_of_lt_of_le hi hnp), hp i hi]
        · rw [hms'] at c3
          dsimp only at c3
          split at c3
          · rename_i ms' hm'
            rw [Bool.and_eq_true] at c3
            rw [(nk_mpM_ok hm').1, ← hms ms hms' ρ' hρ']
            exact nk_lex_ok k3.1.1 k3.1.2.2.1 c3.1 c3.2
          · cases c3
      · cases c3
  · exact ih S' q.2 a' h3 (hQ.sub fun F hF => h2 F (h4 F hF)) (Nat.le_trans hn k2) ρ' H locs ls st hρ' k3
end NK43
theorem nk_run_ok {kd : List nkKd} {IT : List nkIn} {spt : List (Nat × nkSp)} (hIT : ∀ en ∈ IT, nkMetI kd en) : ∀ (f : Nat) (M : nkMd) (C : nkCs) (fr lo : Nat) (Ws : nkWs) (S : nkS) (pc : Nat) (L : List nkS), nk_run kd IT spt f M C fr lo Ws S pc = some L →
    ∀ ⦃p : Program⦄ ⦃l : Launch⦄ ⦃e : Env⦄ ⦃R : Room⦄ ⦃s : State⦄ ⦃m : MethodId⦄ ⦃args : Array Value⦄ ⦃below : List Frame⦄ ⦃meth : Method⦄ ⦃c : Code⦄ ⦃cc : ByteArray⦄ ⦃E : nkE⦄ ⦃H0 : Heap⦄ ⦃n0 : Nat⦄ ⦃ρ0 ρp : Nat → Value⦄ ⦃Qc : Array Value → State → Outcome → State → Prop⦄,
    E.2.1 = kd → nkHy p R s m args c cc E M fr lo → (∀ q : Nat, E.2.1.length ≤ E.2.2 q → H0[q]? = s.heap[q]?) → meth.sig.returnType = M.2.2.2.1 → meth.locks = false → C.2.1 ≤ n0 → nkX C.2.1 ρp ρ0 → nkKc p l e R s m args below meth c Qc E M.2.1 Ws H0 ρ0 ρp C → (∀ ms, C.2.2 = some ms → ∀ ρ, nkX n0 ρ0 ρ → nk_num ρ ms = nk_num ρ0 ms) → nkFin s args Qc E M.2.1 Ws H0 n0 ρ0 L →
    nkGo p l e R s m args below meth c (MQ below Qc args s 0 0 (nkA E)) E M.2.1 Ws H0 n0 ρ0 pc S
  | 0, _, _, _, _, _, _, _, _, h => by cases h
  | f + 1, M, C, fr, lo, Ws, S, pc, L, h => by
    intro p l e R s m args below meth c cc E H0 n0 ρ0 ρp Qc hkd hh hun0 hr hlk hnp hp hK hms hQ
    subst hkd
    unfold nk_run at h
    split at h
    · rename_i q hq'
      have hq := hh.2.2.1 _ _ hq'
      have ih : ∀ (S : nkS) (pc : Nat) (L' : List nkS), nk_run E.2.1 IT spt f M C fr lo Ws S pc = some L' → nkFin s args Qc E M.2.1 Ws H0 n0 ρ0 L' → nkGo p l e R s m args below meth c (MQ below Qc args s 0 0 (nkA E)) E M.2.1 Ws H0 n0 ρ0 pc S := fun S pc L' h1 h2 => nk_run_ok hIT f M C fr lo Ws S pc L' h1 rfl hh hun0 hr hlk hnp hp hK hms h2
      split at h
      · split at h
        · rename_i hret
          cases h
          exact nk_sRet_ok hh.1.1 hh.1.2.1 hr hlk hq hret (fun ρ H locs ls st v t h1 h2 h3 h4 h5 => hQ S List.mem_cons_self ρ H locs ls st v t h1 h2 h3 h4 h5)
        · cases h
      · split at h
        · rename_i L1 hL1
          refine nk_cal_ok (fr := fr) (lo := lo) hIT hh hun0 (fun mn y as S1 lo0 L' hy hlo0 hw hL' => ?_) hq hL1 (fun S' hS' => ?_)
          · refine nk_metOf (spt := spt) hy hlo0 hw (fun {p l e R s m args below meth c cc E' ρ} hkd' hh' hr' hlk' => ?_)
            refine nk_run_ok hIT f (nk_md spt mn y) ([], 0, none) _ _ Ws _ 0 L' hL' (ρp := ρ) hkd' hh' (fun _ _ => rfl) hr' hlk' (Nat.zero_le _) (fun i hi => absurd hi (Nat.not_lt_zero _)) (fun ce hce => by cases hce) (fun ms hms => by cases hms) (fun F hF ρ' H locs ls st v t g1 g2 g3 g4 g5 => ?_)
            refine ⟨⟨v, F, ρ', rfl, hF, g2, g1, by rw [g5]; exact g3.1, g4⟩, ?_⟩
            rw [g5]
            obtain ⟨f1, f2, f3, f4⟩ := g3.2.2.2
            exact ⟨f1, f2, fun q hq => (by cases hq), f4⟩
          · exact nk_all_ok h hnp hp hK hms hQ ih (S', pc + 3) (nk_at3_mem hS')
        · cases h
      · split at h
        · rename_i L1 hL1
          exact nk_step_ok hh hun0 hq hL1 (nk_all_ok h hnp hp hK hms hQ ih)
        · cases h
    · cases h
/-! the check of an instance -/
def nk_enA (np : Nat) (F : nkS) : List nkS → Bool
  | [] => false
  | a :: r => match nk_ent np a F with
    | some _ => true
    | none => nk_enA np F r
def nk_fins (np : Nat) (alts : List nkS) : List nkS → Bool
  | [] => true
  | F :: r => match nk_enA np F alts with
    | true => nk_fins np alts r
    | false => false
def nk_altB (np : Nat) : List nkS → Bool
  | [] => true
  | a :: r => match Nat.beq a.2.1.length a.1 && Nat.ble np a.1 with
    | true => nk_altB np r
    | false => false
def nk_vrs (n : Nat) : nkMs → Bool
  | [] => true
  | q :: r => match Nat.beq q.1 0 || Nat.blt q.2.1 n with
    | true => nk_vrs n r
    | false => false
def nk_rus (run : nkS → Option (List nkS)) (np : Nat) (alts : List nkS) : List nkS → Bool
  | [] => true
  | S :: r => match run S with
    | some L => match nk_fins np alts L with
      | true => nk_rus run np alts r
      | false => false
    | none => false
def nk_chC (kd : List nkKd) (IT : List nkIn) (spt : List (Nat × nkSp)) (en : nkIn) (M : nkMd) (ces : List nkCe) (fuel : Nat) : List nkCe → Bool
  | [] => true
  | ce :: r => match Nat.ble en.2.2.2.2.1.1 ce.2.1.1 && (nk_vrs ce.2.1.1 ce.2.2 && nk_rus (fun S => nk_run kd IT spt fuel M (ces, en.2.2.2.2.1.1, some ce.2.2) en.2.1 en.2.2.1 en.2.2.2.2.2.1 S ce.1) en.2.2.2.2.1.1 en.2.2.2.2.2.2 (nk_spl kd M.2.2.2.2 ce.1 ce.2.1)) with
    | true => nk_chC kd IT spt en M ces fuel r
    | false => false
def nk_chk (kd : List nkKd) (IT : List nkIn) (spt : List (Nat × nkSp)) (en : nkIn) (ces : List nkCe) (fuel : Nat) : Bool := match nk_nth nhMt en.1 with
  | some y => match nk_lo0 en.2.2.2.2.1 0 (List.range en.2.2.2.1) with
    | some lo0 => match Nat.ble (nk_wid en.2.2.2.2.1 (List.range en.2.2.2.1)) y.2.2.1 && (Nat.beq en.2.2.2.2.1.2.1.length en.2.2.2.2.1.1 && (en.2.2.2.2.1.2.2.2.2.2.2.isEmpty && nk_altB en.2.2.2.2.1.1 en.2.2.2.2.2.2)) with
      | true => match nk_all kd (ces, en.2.2.2.2.1.1, none) (nk_spt spt en.1) (fun pc S => nk_run kd IT spt fuel (nk_md spt en.1 y) (ces, en.2.2.2.2.1.1, none) en.2.1 en.2.2.1 en.2.2.2.2.2.1 S pc) [((en.2.2.2.2.1.1, en.2.2.2.2.1.2.1, lo0, [], en.2.2.2.2.1.2.2.2.2), 0)] with
        | some L => match nk_fins en.2.2.2.2.1.1 en.2.2.2.2.2.2 L with
          | true => nk_chC kd IT spt en (nk_md spt en.1 y) ces fuel ces
          | false => false
        | none => false
      | false => false
    | none => false
  | none => false
theorem nk_enA_ok {np : Nat} {F : nkS} : ∀ {alts : List nkS}, nk_enA np F alts = true → ∃ a ∈ alts, ∃ σ, nk_ent np a F = some σ
  | [], h => by cases h
  | a :: r, h => by
    unfold nk_enA at h
    split at h
    · rename_i σ hσ
      exact ⟨a, List.mem_cons_self, σ, hσ⟩
    · obtain ⟨a', h1, h2⟩ := nk_enA_ok h
      exact ⟨a', List.mem_cons_of_mem _ h1, h2⟩
theorem nk_fins_ok {np : Nat} {alts : List nkS} : ∀ {L : List nkS}, nk_fins np alts L = true → ∀ F ∈ L, nk_enA np F alts = true
  | [], _, F, h => by cases h
  | G :: r, h, F, hF => by
    unfold nk_fins at h
    split at h
    · rename_i e
      rcases List.mem_cons.mp hF with rfl | hF
      · exact e
      · exact nk_fins_ok h F hF
    · cases h
theorem nk_altB_ok {np : Nat} : ∀ {alts : List nkS}, nk_altB np alts = true → ∀ a ∈ alts, a.2.1.length = a.1 ∧ np ≤ a.1
  | [], _, a, h => by cases h
  | b :: r, h, a, ha => by
    unfold nk_altB at h
    split at h
    · rename_i e
      rw [Bool.and_eq_true] at e
      rcases List.mem_cons.mp ha with rfl | ha
      · exact ⟨Nat.eq_of_beq_eq_true e.1, Nat.le_of_ble_eq_true e.2⟩
      · exact nk_altB_ok h a ha
    · cases h
theorem nk_rus_ok {run : nkS → Option (List nkS)} {np : Nat} {alts : List nkS} : ∀ {Ss : List nkS}, nk_rus run np alts Ss = true → ∀ S ∈ Ss, ∃ L, run S = some L ∧ nk_fins np alts L = true
  | [], _, S, h => by cases h
  | T :: r, h, S, hS => by
    unfold nk_rus at h
    split at h
    · rename_i L hL
      split at h
      · rename_i e
        rcases List.mem_cons.mp hS with rfl | hS
        · exact ⟨L, hL, e⟩
        · exact nk_rus_ok h S hS
      · cases h
    · cases h
theorem nk_chC_ok {kd : List nkKd} {IT : List nkIn} {spt : List (Nat × nkSp)} {en : nkIn} {M : nkMd} {ces0 : List nkCe} {fuel : Nat} : ∀ {ces : List nkCe}, nk_chC kd IT spt en M ces0 fuel ces = true → ∀ ce ∈ ces, en.2.2.2.2.1.1 ≤ ce.2.1.1 ∧ nk_vrs ce.2.1.1 ce.2.2 = true ∧ nk_rus (fun S => nk_run kd IT spt fuel M (ces0, en.2.2.2.2.1.1, some ce.2.2) en.2.1 en.2.2.1 en.2.2.2.2.2.1 S ce.1) en.2.2.2.2.1.1 en.2.2.2.2.2.2 (nk_spl kd M.2.2.2.2 ce.1 ce.2.1) = true
  | [], _, ce, h => by cases h
  | b :: r, h, ce, hce => by
    unfold nk_chC at h
    split at h
    · rename_i e
      rw [Bool.and_eq_true, Bool.and_eq_true] at e
      rcases List.mem_cons.mp hce with rfl | hce
      · exact ⟨Nat.le_of_ble_eq_true e.1, e.2.1, e.2.2⟩
      · exact nk_chC_ok h ce hce
    · cases h
theorem nk_vrs_num {n : Nat} {ρ ρ' : Nat → Value} (hX : nkX n ρ ρ') : ∀ {ms : nkMs}, nk_vrs n ms = true → nk_num ρ' ms = nk_num ρ ms
  | [], _ => rfl
  | q :: r, h => by
    unfold nk_vrs at h
    split at h
    · rename_i e
      rw [Bool.or_eq_true] at e
      have e1 : nk_mv ρ' q = nk_mv ρ q := by
        obtain ⟨t, v, b⟩ := q
        dsimp only at e
        rcases e with e | e
        · have e := Nat.eq_of_beq_eq_true e
          subst e
          rfl
        · unfold nk_mv
          dsimp only
          rw [hX v (nk_blt e)]
      rw [nk_num, nk_num, e1, nk_vrs_num hX h]
    · cases h
theorem nk_sound {kd : List nkKd} {IT : List nkIn} {spt : List (Nat × nkSp)} {en : nkIn} {ces : List nkCe} {fuel : Nat} (hIT : ∀ en ∈ IT, nkMetI kd en) (h : nk_chk kd IT spt en ces fuel = true) : nkMetI kd en := by
  unfold nk_chk at h
  split at h
  · rename_i y hy
    rw [nk_nth_eq] at hy
    split at h
    · rename_i lo0 hlo0
      split at h
      · rename_i hc
        simp only [Bool.and_eq_true] at hc
        obtain ⟨c1, c2, c3, c4⟩ := hc
        have c1 := Nat.le_of_ble_eq_true c1
        have c2 := Nat.eq_of_beq_eq_true c2
        have c3 := List.isEmpty_iff.mp c3
        have c4 := nk_altB_ok c4
        split at h
        · rename_i L hL
          split at h
          · rename_i hfin
            have hces := nk_chC_ok h
            refine ⟨fun y' hy' => ?_, c2, c3, c4⟩
            rw [hy] at hy'
            cases hy'
            refine nk_metOf (spt := spt) hy hlo0 c1 (fun {p l e R s m args below meth c cc E ρ} hkd hh hr hlk => ?_)
            subst hkd
            have fin : ∀ {n0 : Nat} {ρ0 : Nat → Value} {L' : List nkS}, en.2.2.2.2.1.1 ≤ n0 → nkX en.2.2.2.2.1.1 ρ ρ0 → nk_fins en.2.2.2.2.1.1 en.2.2.2.2.2.2 L' = true → nkFin s args (nkQc E en.2.2.2.2.2.1 en.2.2.2.2.2.2 en.2.2.2.2.1.1 ρ) E y.2.2.1 en.2.2.2.2.2.1 s.heap n0 ρ0 L' := by
              intro n0 ρ0 L' hn0 hX0 hL' F hF ρ1 H locs ls st v t g1 g2 g3 g4 g5
              obtain ⟨a, a1, σ, a2⟩ := nk_enA_ok (nk_fins_ok hL' F hF)
              obtain ⟨e1, e2, e3, e4⟩ := nk_ent_ok a2 g3
              refine ⟨⟨v, a, nk_pk σ ρ1, rfl, a1, (c4 a a1).2, fun i hi => ?_, by rw [g5]; exact e1.1, ?_⟩, ?_⟩
              · rw [e2 i hi, g1 i (Nat.lt_of_lt_of_le hi hn0), hX0 i hi]
              · have hs1 := e1.2.2.1
                have hs2 := g3.2.2.1.1
                rw [hs1.1] at hs2
                unfold nkRt at g4 ⊢
                split at g4
                · rename_i hst
                  rw [hst] at hs2
                  have hnil : a.2.2.2.1 = [] := by
                    cases hq : a.2.2.2.1 with
                    | nil => rfl
                    | cons x r =>
                      rw [hq] at hs2
                      have hlen := congrArg List.length hs2
                      simp at hlen
                  rw [hnil]
                  exact g4
                · rename_i r hst
                  rw [hst] at hs2
                  cases hq : a.2.2.2.1 with
                  | nil =>
                    rw [hq] at hs2
                    have hlen := congrArg List.length hs2
                    simp at hlen
                  | cons x xs =>
                    rw [hq] at hs2
                    cases hq2 : xs with
                    | cons x2 xs2 =>
                      rw [hq2] at hs2
                      have hlen := congrArg List.length hs2
                      simp at hlen
                    | nil =>
                      rw [hq2] at hs2
                      have h5 : nk_pk σ ρ1 x = ρ1 r := List.head_eq_of_cons_eq hs2
                      exact ⟨hs1.2 x (by rw [hq]; exact List.mem_cons_self), by rw [h5]; exact g4.2⟩
                · exact g4.elim
              · rw [g5]
                obtain ⟨f1, f2, f3, f4⟩ := g3.2.2.2
                exact ⟨f1, f2, fun q hq => (by cases hq), f4⟩
            have hP : ∀ (n : Nat), ∀ ce ∈ ces, ∀ (ρ1 : Nat → Value) (H : Heap) (locs : List Loc) (ls : Array Slot) (st : List Value), nkX en.2.2.2.2.1.1 ρ ρ1 → nkR E y.2.2.1 en.2.2.2.2.2.1 s.heap ce.2.1 ρ1 H locs ls st → nk_num ρ1 ce.2.2 < n → W p l e R s m args below meth c H locs 0 0 (MQ below (nkQc E en.2.2.2.2.2.1 en.2.2.2.2.2.2 en.2.2.2.2.1.1 ρ) args s 0 0 (nkA E)) (F0 m ce.1 ls st) := by
              intro n
              induction n with
              | zero => intro ce _ ρ1 H locs ls st _ _ h; exact absurd h (Nat.not_lt_zero _)
              | succ n ih =>
                intro ce hce ρ1 H locs ls st hX hR hn
                obtain ⟨z1, z2, z3⟩ := hces ce hce
                obtain ⟨S', k1, k2, ρ', k4, k3⟩ := nk_spl_ok (pc := ce.1) hR (sp := (nk_md spt en.1 y).2.2.2.2)
                obtain ⟨L', r1, r2⟩ := nk_rus_ok z3 S' k1
                refine nk_run_ok hIT fuel (nk_md spt en.1 y) (ces, en.2.2.2.2.1.1, some ce.2.2) _ _ _ S' ce.1 L' r1 (ρ0 := ρ1) (ρp := ρ) (n0 := ce.2.1.1) rfl hh (fun _ _ => rfl) hr hlk z1 hX (fun ce' hce' ρ2 H2 locs2 ls2 st2 hX2 hR2 hm => ?_) (fun ms hms ρ2 hX2 => ?_) (fin z1 hX r2) k2 ρ' H locs ls st k4 k3
                · refine ih ce' hce' ρ2 H2 locs2 ls2 st2 hX2 hR2 ?_
                  have := hm _ rfl
                  omega
                · cases hms
                  exact nk_vrs_num hX2 z2
            exact nk_all_ok (C := (ces, en.2.2.2.2.1.1, none)) hL (Nat.le_refl _) (nkX.rf _ ρ) (fun ce hce ρ1 H locs ls st hX hR _ => hP _ ce hce ρ1 H locs ls st hX hR (Nat.lt_succ_self _)) (fun ms hms => by cases hms) (fin (Nat.le_refl _) (nkX.rf _ ρ) hfin) (fun S pc L' h1 h2 => nk_run_ok hIT fuel (nk_md spt en.1 y) (ces, en.2.2.2.2.1.1, none) _ _ _ S pc L' h1 (ρp := ρ) rfl hh (fun _ _ => rfl) hr hlk (Nat.le_refl _) (nkX.rf _ ρ) (fun ce hce ρ1 H locs ls st hX hR _ => hP _ ce hce ρ1 H locs ls st hX hR (Nat.lt_succ_self _)) (fun ms hms => by cases hms) h2) (_, 0) List.mem_cons_self
          · cases h
        · cases h
      · cases h
    · cases h
  · cases h
theorem nk_nil (kd : List nkKd) : ∀ en ∈ ([] : List nkIn), nkMetI kd en := fun en h => by cases h
theorem nk_cons {kd : List nkKd} {a : nkIn} {r : List nkIn} (h : nkMetI kd a) (g : ∀ en ∈ r, nkMetI kd en) : ∀ en ∈ a :: r, nkMetI kd en := fun en he => by
  rcases List.mem_cons.mp he with rfl | he
  · exact h
  · exact g en he
