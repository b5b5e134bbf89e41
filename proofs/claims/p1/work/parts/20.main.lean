/-! THE CHECK OF A METHOD -/
/-- which rows an instruction goes to -/
def nh_cls (i : Instr) : Nat := match i with
  | .iload _ => 1
  | .iload_n _ => 1
  | .lload _ => 1
  | .lload_n _ => 1
  | .aload _ => 1
  | .aload_n _ => 1
  | .istore _ => 2
  | .istore_n _ => 2
  | .lstore _ => 2
  | .lstore_n _ => 2
  | .astore _ => 2
  | .astore_n _ => 2
  | .iinc _ _ => 3
  | .dup => 4
  | .pop => 4
  | .dup2 => 4
  | .if_icmp _ _ => 5
  | .ifCond _ _ => 5
  | .goto _ => 5
  | .ifnull _ => 5
  | .ifnonnull _ => 5
  | .tableswitch _ _ _ _ => 5
  | .lookupswitch _ _ => 5
  | .getfield _ => 6
  | .putfield _ => 7
  | .iaload => 8
  | .baload => 8
  | .laload => 8
  | .aaload => 8
  | .iastore => 9
  | .bastore => 9
  | .lastore => 9
  | .arraylength => 10
  | .ldc _ => 11
  | .ldc_w _ => 11
  | .ldc2_w _ => 11
  | .invokevirtual _ => 12
  | .invokestatic _ => 12
  | .ireturn => 13
  | .lreturn => 13
  | .areturn => 13
  | .return_ => 13
  | _ => 0
/-- what is fixed for a method: kinds, instances, own class, number of locals, calls (pc, instance), frames, locals' words, pure -/
abbrev nhG : Type := List nhKd × List nhIn × Nat × Nat × List (Nat × Nat) × Nat × Nat × Bool
def nh_on (o : Option nhS) (pc : Nat) : Option nhSu := match o with
  | some S => some [(S, pc)]
  | none => none
def nh_step (G : nhG) (S : nhS) (pc : Nat) (i : Instr) (len : Nat) : Option nhSu := match nh_cls i with
  | 0 => nh_on (nh_sOp S i len) (pc + len)
  | 1 => nh_on (nh_sLd S i len) (pc + len)
  | 2 => nh_on (nh_sSt S G.2.2.2.1 i len) (pc + len)
  | 3 => nh_on (nh_sInc S G.2.2.2.1 i len) (pc + len)
  | 4 => nh_on (nh_sSk S i len) (pc + len)
  | 5 => nh_sBr S pc i len
  | 6 => nh_on (nh_sGet G.1 G.2.2.1 S i len) (pc + len)
  | 7 => if G.2.2.2.2.2.2.2 = false then nh_on (nh_sPut G.1 G.2.2.1 S i len) (pc + len) else none
  | 8 => nh_on (nh_sAld G.1 S i len) (pc + len)
  | 9 => if G.2.2.2.2.2.2.2 = false then nh_on (nh_sAst G.1 S i len) (pc + len) else none
  | 10 => nh_on (nh_sLen G.1 S i len) (pc + len)
  | 11 => nh_on (nh_sLdc G.2.2.1 S i len) (pc + len)
  | 12 => nh_on (nh_sCall G.1 G.2.1 G.2.2.1 G.2.2.2.2.1 G.2.2.2.2.2.1 G.2.2.2.2.2.2.1 G.2.2.2.2.2.2.2 S pc i len) (pc + len)
  | _ => none
/-- a state comes to a certificate, with less to go -/
def nh_ced (np : Nat) (om : Option nhMs) (S : nhS) (ce : nhCe) : Bool := match nh_ent np ce S with
  | some σ => match om with
    | none => true
    | some ms => nh_bnd ce.2.2.2.2.2.2 && (match ce.2.2.2.2.2.2.mapM (fun q => if q.1 = 0 then some q else (σ[q.2.1]?).map (fun j => (q.1, j, q.2.2))) with
      | some ms' => nh_lex S ms ms' && nh_bnd ms'
      | none => false)
  | none => false
def nh_go (run : nhS → Nat → Bool) (ces : List nhCe) (np : Nat) (om : Option nhMs) (S : nhS) (pc : Nat) : Bool :=
  if ces.any (fun ce => ce.1 == pc) then ces.any (fun ce => ce.1 == pc && nh_ced np om S ce) else run S pc
def nh_run (G : nhG) (dt : nhDt) (rt : Option FieldType) (ct : nhCtr) (ces : List nhCe) (om : Option nhMs) : Nat → nhS → Nat → Bool
  | 0, _, _ => false
  | f + 1, S, pc => match nh_dk dt pc with
    | some q => if nh_cls q.1 = 13 then nh_sRet rt ct S q.1 q.2 else (match nh_step G S pc q.1 q.2 with
      | some L => L.all (fun w => nh_go (nh_run G dt rt ct ces om f) ces ct.2.1.length om w.1 w.2)
      | none => false)
    | none => false
section NH20
variable {p : Program} {l : Launch} {e : Env} {R : Room} {s : State} {m : MethodId} {args : Array Value} {below : List Frame} {meth : Method} {c : Code} {Q : State → Prop}
variable {cc : ByteArray} {E : nhE} {G : nhG} {pc : Nat} {S : nhS} {ρ0 ρp : List Value}
/-- what a walk stands on -/
def nhHy (p : Program) (R : Room) (s : State) (m : MethodId) (args : Array Value) (c : Code) (cc : ByteArray) (E : nhE) (G : nhG) : Prop :=
  G.1 = E.2.1 ∧ nhFx p c s m args cc G.2.2.2.1 G.2.2.1 E.1 ∧ R.frames = G.2.2.2.2.2.1 ∧ R.locals = G.2.2.2.2.2.2.1 ∧ ∀ (j : Nat) (en : nhIn) (y : nhMth), (∃ pc, (pc, j) ∈ G.2.2.2.2.1) → G.2.1[j]? = some en → nhMt[en.1]? = some y → nhMet E.2.1 y en
theorem nh_on_ok {o : Option nhS} {pc : Nat} {L : nhSu} (h : nh_on o pc = some L) : ∃ S', o = some S' ∧ (S', pc) ∈ L := by
  unfold nh_on at h
  split at h
  · cases h
    exact ⟨_, rfl, List.mem_cons_self⟩
  · cases h
theorem nh_step_ok (hh : nhHy p R s m args c cc E G) {i : Instr} {len : Nat} (hd : decode cc pc = .ok (i, len)) {L : nhSu} (h : nh_step G S pc i len = some L)
    (k : ∀ q ∈ L, nhGo p l e R s m args below meth c Q E G.2.2.2.1 G.2.2.2.2.2.2.2 q.2 q.1 ρ0) : nhGo p l e R s m args below meth c Q E G.2.2.2.1 G.2.2.2.2.2.2.2 pc S ρ0 := by
  obtain ⟨hkd, hF, hR1, hR2, hM⟩ := hh
  have hx := hF.1
  have hb := hF.2.1
  unfold nh_step at h
  split at h
  · obtain ⟨S', h1, h2⟩ := nh_on_ok h
    exact nh_sOp_ok hx hb hd h1 (k _ h2)
  · obtain ⟨S', h1, h2⟩ := nh_on_ok h
    exact nh_sLd_ok hx hb hd h1 (k _ h2)
  · obtain ⟨S', h1, h2⟩ := nh_on_ok h
    exact nh_sSt_ok hx hb hd h1 (k _ h2)
  · obtain ⟨S', h1, h2⟩ := nh_on_ok h
    exact nh_sInc_ok hx hb hd h1 (k _ h2)
  · obtain ⟨S', h1, h2⟩ := nh_on_ok h
    exact nh_sSk_ok hx hb hd h1 (k _ h2)
  · exact nh_sBr_ok hx hb hd h k
  · obtain ⟨S', h1, h2⟩ := nh_on_ok h
    rw [hkd] at h1
    exact nh_sGet_ok hF hd h1 (k _ h2)
  · split at h
    · rename_i hp
      obtain ⟨S', h1, h2⟩ := nh_on_ok h
      rw [hkd] at h1
      have k2 := k _ h2
      rw [hp] at k2 ⊢
      exact nh_sPut_ok hF hd h1 k2
    · cases h
  · obtain ⟨S', h1, h2⟩ := nh_on_ok h
    rw [hkd] at h1
    exact nh_sAld_ok hF hd h1 (k _ h2)
  · split at h
    · rename_i hp
      obtain ⟨S', h1, h2⟩ := nh_on_ok h
      rw [hkd] at h1
      have k2 := k _ h2
      rw [hp] at k2 ⊢
      exact nh_sAst_ok hF hd h1 k2
    · cases h
  · obtain ⟨S', h1, h2⟩ := nh_on_ok h
    rw [hkd] at h1
    exact nh_sLen_ok hF hd h1 (k _ h2)
  · obtain ⟨S', h1, h2⟩ := nh_on_ok h
    exact nh_sLdc_ok hF hd h1 (k _ h2)
  · obtain ⟨S', h1, h2⟩ := nh_on_ok h
    rw [hkd] at h1
    exact nh_sCall_ok hF hR1 hR2 hM hd h1 (k _ h2)
  · cases h
theorem nh_mapM_num {ρ : List Value} {σ : List Nat} (hσ : ∀ (i j : Nat), σ[i]? = some j → ∃ x, ρ[j]? = some x ∧ (nh_pick ρ σ)[i]? = some x) : ∀ {ms ms' : nhMs}, ms.mapM (fun q => if q.1 = 0 then some q else (σ[q.2.1]?).map (fun j => (q.1, j, q.2.2))) = some ms' → nh_num (nh_pick ρ σ) ms = nh_num ρ ms' ∧ ms.length = ms'.length
  | [], ms', h => by
    simp only [List.mapM_nil] at h
    cases h
    exact ⟨rfl, rfl⟩
  | q :: r, ms', h => by
    rw [List.mapM_cons] at h
    simp only [Option.bind_eq_bind, Option.pure_def] at h
    obtain ⟨q', h1, h⟩ := Option.bind_eq_some_iff.mp h
    obtain ⟨r', h2, h⟩ := Option.bind_eq_some_iff.mp h
    cases h
    obtain ⟨k1, k2⟩ := nh_mapM_num hσ h2
    refine ⟨?_, by simp [k2]⟩
    have hv : nh_mv (nh_pick ρ σ) q = nh_mv ρ q' := by
      obtain ⟨t, v, b⟩ := q
      dsimp only at h1
      split at h1
      · rename_i e
        cases h1
        subst e
        rfl
      · obtain ⟨j, g1, g2⟩ := Option.map_eq_some_iff.mp h1
        cases g2
        obtain ⟨x, g3, g4⟩ := hσ _ _ g1
        unfold nh_mv
        dsimp only
        rw [g3, g4]
    simp only [nh_num]
    rw [hv, k1, k2]
theorem nh_run_ok (hh : nhHy p R s m args c cc E G) {dt : nhDt} (hdt : ∀ (pc : Nat) (q : Instr × Nat), nh_dk dt pc = some q → decode cc pc = .ok q) {rt : Option FieldType} (hr : meth.sig.returnType = rt) (hlocks : meth.locks = false) {ct : nhCtr} (hpu : G.2.2.2.2.2.2.2 = ct.2.2.2.2.2.2) (hl : ∀ q ∈ ct.2.2.2.2.1, q.2.1 < ρp.length) (hl2 : ∀ q ∈ ct.2.2.2.2.2.1, q.2.2.1 < ρp.length) (hlp : ρp.length = ct.2.1.length) {ces : List nhCe} {om : Option nhMs} (hp : nhX ρp ρ0)
    (hK : ∀ ce ∈ ces, ∀ (ρ : List Value) (H : Heap) (locs : List Loc) (ls : Array Slot) (st : List Value), nhX ρp ρ → nhR E G.2.2.2.1 G.2.2.2.2.2.2.2 s.heap (nh_ceS ce) ρ H locs ls st → (∀ ms, om = some ms → nh_num ρ ce.2.2.2.2.2.2 < nh_num ρ0 ms) → W p l e R s m args below meth c H locs 0 0 (MQ below (nhQc E ct ρp) args s 0 0 (fun a => 0 ≤ E.2.2.1 a)) (F0 m ce.1 ls st))
    (hms : ∀ ms, om = some ms → ∀ ρ, nhX ρ0 ρ → nh_num ρ ms = nh_num ρ0 ms) :
    ∀ (f : Nat) (S : nhS) (pc : Nat), nh_run G dt rt ct ces om f S pc = true → nhGo p l e R s m args below meth c (MQ below (nhQc E ct ρp) args s 0 0 (fun a => 0 ≤ E.2.2.1 a)) E G.2.2.2.1 G.2.2.2.2.2.2.2 pc S ρ0
  | 0, _, _, h => by cases h
  | f + 1, S, pc, h => by
    unfold nh_run at h
    split at h
    · rename_i q hq'
      have hq := hdt _ _ hq'
      split at h
      · rw [hpu]
        exact nh_sRet_ok hh.2.1.1 hh.2.1.2.1 hr hlocks hp hl hl2 hq h
      · split at h
        · rename_i L hL
          refine nh_step_ok hh hq hL (fun w hw => ?_)
          have h1 := List.all_eq_true.mp h w hw
          unfold nh_go at h1
          split at h1
          · obtain ⟨ce, hce, h2⟩ := List.any_eq_true.mp h1
            rw [Bool.and_eq_true, beq_iff_eq] at h2
            obtain ⟨h2, h3⟩ := h2
            intro ρ H locs ls st hρ hR
            unfold nh_ced at h3
            split at h3
            · rename_i σ hσ
              obtain ⟨e1, e2, e3⟩ := nh_ent_ok hσ hR
              have hX : nhX ρp (nh_pick ρ σ) := fun i x hi => by
                have hlt := (List.getElem?_eq_some_iff.mp hi).1
                rw [e2 i (by omega)]
                exact (hp.tr hρ) i x hi
              rw [← h2]
              refine hK ce hce _ H locs ls st hX e1 (fun ms hms' => ?_)
              rw [hms'] at h3
              dsimp only at h3
              rw [Bool.and_eq_true] at h3
              obtain ⟨-, h4⟩ := h3
              split at h4
              · rename_i ms' hm'
                rw [Bool.and_eq_true] at h4
                rw [(nh_mapM_num e3 hm').1, ← hms ms hms' ρ hρ]
                exact nh_lex_ok hR h4.1 h4.2
              · cases h4
            · cases h3
          · exact nh_run_ok hh hdt hr hlocks hpu hl hl2 hlp hp hK hms f w.1 w.2 h1
        · cases h
    · cases h
end NH20
/-- the check: from the entry, and from each certificate -/
def nh_vrs (ρ : List nhV) (ms : nhMs) : Bool := ms.all (fun q => q.1 == 0 || decide (q.2.1 < ρ.length))
def nh_lo0 : Nat → Nat → List nhV → List (Nat × Nat)
  | _, _, [] => []
  | n, j, v :: r => (n, j) :: nh_lo0 (n + (if v.1 = 1 then 2 else 1)) (j + 1) r
def nh_wid : List nhV → Nat
  | [] => 0
  | v :: r => (if v.1 = 1 then 2 else 1) + nh_wid r
def nh_chk (G : nhG) (dt : nhDt) (rt : Option FieldType) (ct : nhCtr) (ces : List nhCe) (fuel : Nat) : Bool :=
  ct.2.2.2.2.1.all (fun q => decide (q.2.1 < ct.2.1.length)) && ct.2.2.2.2.2.1.all (fun q => decide (q.2.2.1 < ct.2.1.length)) && decide (G.2.2.2.2.2.2.2 = ct.2.2.2.2.2.2) &&
  (ct.2.1.take ct.1).all (fun v => decide (nh_cat v < 3)) && decide (ct.1 ≤ ct.2.1.length) && decide (nh_wid (ct.2.1.take ct.1) ≤ G.2.2.2.1) &&
  nh_go (nh_run G dt rt ct ces none fuel) ces ct.2.1.length none (ct.2.1, nh_lo0 0 0 (ct.2.1.take ct.1), [], ct.2.2.1, [], []) 0 &&
  ces.all (fun ce => nh_vrs ce.2.1 ce.2.2.2.2.2.2 && nh_run G dt rt ct ces (some ce.2.2.2.2.2.2) fuel (nh_ceS ce) ce.1)
