/-! returns, splits, the run of a method and of what it calls -/
def nk_is (S : nkS) (r k : Nat) : Bool := match nk_g S.2.1 S.1 r with
  | some v => Nat.beq (nk_cat v) k
  | none => false
def nk_isB (S : nkS) (r : Nat) : Bool := match nk_g S.2.1 S.1 r with
  | some v => nk_le v (0, 18446744073709551616, 18446744073709551617)
  | none => false
def nk_sRet (rt : Option FieldType) (S : nkS) (i : Instr) (len : Nat) : Bool := match Nat.beq len 1 with
  | false => false
  | true => match i with
    | .return_ => match S.2.2.2.1, rt with
      | [], none => true
      | _, _ => false
    | .ireturn => match S.2.2.2.1, rt with
      | [r], some .int => nk_is S r 0
      | [r], some .boolean => nk_isB S r
      | _, _ => false
    | .lreturn => match S.2.2.2.1, rt with
      | [r], some .long => nk_is S r 1
      | _, _ => false
    | .areturn => match S.2.2.2.1, rt with
      | [r], some (.object _) => nk_is S r 2
      | [r], some (.array _) => nk_is S r 2
      | _, _ => false
    | _ => false
theorem nk_is_ok {E : nkE} {S : nkS} {ρ : Nat → Value} {r k : Nat} (hA : nkAll E.2.2 S.1 S.2.1 ρ) (h : nk_is S r k = true) : r < S.1 ∧ (k = 0 → ∃ a : Int32, ρ r = .int a) ∧ (k = 1 → ∃ a : Int64, ρ r = .long a) ∧ (k = 2 → ρ r = .null ∨ ∃ a : Nat, ρ r = .ref a) := by
  unfold nk_is at h
  split at h
  · rename_i v hv
    have h := Nat.eq_of_beq_eq_true h
    have hc := nk_cat_ok (hA r v hv)
    rw [h] at hc
    exact ⟨nk_g_lt hv, hc⟩
  · cases h
section NK40a
variable {p : Program} {l : Launch} {e : Env} {R : Room} {s : State} {m : MethodId} {args : Array Value} {below : List Frame} {meth : Method} {c : Code}
variable {cc : ByteArray} {E : nkE} {nL : Nat} {Ws : nkWs} {H0 : Heap} {n0 : Nat} {ρ0 : Nat → Value} {pc : Nat} {S : nkS}
theorem nk_sRet_ok {Qc : Array Value → State → Outcome → State → Prop} (hx : p.tables.exec = Jvm.exec) (hb : c.code = cc) {rt : Option FieldType} (hr : meth.sig.returnType = rt) (hlocks : meth.locks = false) {i : Instr} {len : Nat} (hd : decode cc pc = .ok (i, len)) (h : nk_sRet rt S i len = true)
    (hQ : ∀ (ρ : Nat → Value) (H : Heap) (locs : List Loc) (ls : Array Slot) (st : List Value) (v : Option Value) (t : State), nkX n0 ρ0 ρ → n0 ≤ S.1 → nkR E nL Ws H0 S ρ H locs ls st → nkRt S ρ v → t.heap = H → Qc args s (.returned v) t) :
    nkGo p l e R s m args below meth c (MQ below Qc args s 0 0 (nkA E)) E nL Ws H0 n0 ρ0 pc S := by
  intro hn ρ H locs ls st hρ hR
  have hs := hR.2.2.1
  have hloc : ∀ l ∈ locs, nkA E l.base := hR.2.2.2.2.2.1
  have fin := fun (v : Option Value) (hv : nkRt S ρ v) (t : State) (ht : t.heap = H) => hQ ρ H locs ls st v t hρ hn hR hv ht
  unfold nk_sRet at h
  split at h
  · cases h
  · rename_i hl
    have hl := Nat.eq_of_beq_eq_true hl
    subst hl
    split at h
    · split at h
      · rename_i hst
        rw [hst] at hs
        have e1 : st = [] := hs.1
        rw [e1]
        exact W.vret hx hb hr (fun t ht _ => fin none (by unfold nkRt; rw [hst]) t ht) hloc hd
      · cases h
    · split at h
      · rename_i r hst
        rw [hst] at hs
        obtain ⟨lr, xs, rfl, hs1⟩ := hs.inv1
        have e1 : xs = [] := hs1.1
        rw [e1]
        obtain ⟨-, h0, -⟩ := nk_is_ok (E := E) hR.1.1 h
        obtain ⟨a, ea⟩ := h0 rfl
        rw [ea]
        exact W.iret hx hb hr (fun t ht _ => fin _ (by unfold nkRt; rw [hst]; exact ⟨lr, by rw [ea]⟩) t ht) hloc hd
      · rename_i r hst
        rw [hst] at hs
        obtain ⟨lr, xs, rfl, hs1⟩ := hs.inv1
        have e1 : xs = [] := hs1.1
        rw [e1]
        unfold nk_isB at h
        split at h
        · rename_i v hv
          have hok := hR.1.1 r v hv
          obtain ⟨hn1, -⟩ := nk_fit_ok (ty := .boolean) h hok
          obtain ⟨a, ea, -⟩ := nk_le_ok h hok
          rw [ea] at hn1 ⊢
          exact W.zret hx hb hr hn1 (fun t ht _ => fin _ (by unfold nkRt; rw [hst]; exact ⟨lr, by rw [ea]⟩) t ht) hloc hd
        · cases h
      · cases h
    · split at h
      · rename_i r hst
        rw [hst] at hs
        obtain ⟨lr, xs, rfl, hs1⟩ := hs.inv1
        have e1 : xs = [] := hs1.1
        rw [e1]
        obtain ⟨-, -, h0, -⟩ := nk_is_ok (E := E) hR.1.1 h
        obtain ⟨a, ea⟩ := h0 rfl
        rw [ea]
        exact W.lret hx hb hr (fun t ht _ => fin _ (by unfold nkRt; rw [hst]; exact ⟨lr, by rw [ea]⟩) t ht) hloc hd
      · cases h
    · split at h
      · rename_i r cn hst
        rw [hst] at hs
        obtain ⟨lr, xs, rfl, hs1⟩ := hs.inv1
        have e1 : xs = [] := hs1.1
        rw [e1]
        obtain ⟨-, -, -, h0⟩ := nk_is_ok (E := E) hR.1.1 h
        exact W.aret hx hb hr (Or.inl ⟨_, rfl⟩) (h0 rfl) (fun t ht _ => fin _ (by unfold nkRt; rw [hst]; exact ⟨lr, rfl⟩) t ht) hloc hd
      · rename_i r cn hst
        rw [hst] at hs
        obtain ⟨lr, xs, rfl, hs1⟩ := hs.inv1
        have e1 : xs = [] := hs1.1
        rw [e1]
        obtain ⟨-, -, -, h0⟩ := nk_is_ok (E := E) hR.1.1 h
        exact W.aret hx hb hr (Or.inr ⟨_, rfl⟩) (h0 rfl) (fun t ht _ => fin _ (by unfold nkRt; rw [hst]; exact ⟨lr, rfl⟩) t ht) hloc hd
      · cases h
    · cases h
end NK40a
/-! splits: (pc, (0 a local, its slot) or (1 the stack, its depth), where its parts end) -/
abbrev nkSp : Type := List (Nat × (Nat × Nat) × List Nat)
def nk_opt (o : Option nkS) : List nkS := match o with
  | some S => [S]
  | none => []
def nk_spx (S : nkS) (x : Nat) : Nat → List Nat → List nkS
  | lo, [] => nk_opt (nk_ref S x lo 36893488147419103232)
  | lo, c :: r => nk_opt (nk_ref S x lo c) ++ nk_spx S x (c + 1) r
def nk_plc (S : nkS) (pl : Nat × Nat) : Option Nat := match pl.1 with
  | 0 => nk_find S.2.2.1 pl.2
  | 1 => nk_nth S.2.2.2.1 pl.2
  | k => match nk_find S.2.2.1 pl.2 with
    | some o => nk_mf S.2.2.2.2.1 o (k - 3)
    | none => none
def nk_il (S : nkS) (x : Nat) : Bool := match nk_g S.2.1 S.1 x with
  | some v => Nat.blt (nk_cat v) 2
  | none => false
/-- a field looked at, though the machine doesn't -/
def nk_ld1 (kd : List nkKd) (S : nkS) (o f : Nat) : Option nkS := match nk_kn S o with
  | some kn => match nk_nth kd kn with
    | some k => match Nat.blt f k.2.2.1 && Nat.blt k.1 2 with
      | true => some (S.1 + 1, nk_ty k f :: S.2.1, S.2.2.1, S.2.2.2.1, (o, f, S.1) :: S.2.2.2.2.1, S.2.2.2.2.2)
      | false => none
    | none => none
  | none => none
def nk_lds (kd : List nkKd) : nkS → Nat → List Nat → nkS
  | S, _, [] => S
  | S, o, f :: r => match nk_mf S.2.2.2.2.1 o f with
    | some x => nk_lds kd S x r
    | none => match nk_ld1 kd S o f with
      | some S' => nk_lds kd S' S.1 r
      | none => S
/-- (pc, (2, slot), path): these fields are looked at; else a split -/
def nk_spl (kd : List nkKd) : nkSp → Nat → nkS → List nkS
  | [], _, S => [S]
  | q :: r, pc, S => match Nat.beq q.1 pc with
    | true => match Nat.beq q.2.1.1 2 with
      | true => match nk_find S.2.2.1 q.2.1.2 with
        | some o => nk_spl kd r pc (nk_lds kd S o q.2.2)
        | none => nk_spl kd r pc S
      | false => match nk_plc S q.2.1 with
        | some x => match nk_il S x with
          | true => nk_spx S x 0 q.2.2
          | false => [S]
        | none => [S]
    | false => nk_spl kd r pc S
section NK40b
variable {E : nkE} {nL : Nat} {Ws : nkWs} {H0 : Heap} {S : nkS} {ρ : Nat → Value} {H : Heap} {locs : List Loc} {ls : Array Slot} {st : List Value}
theorem nk_spx_ok {x : Nat} {z : Int} (h : nkR E nL Ws H0 S ρ H locs ls st) (hz : ∀ lo hi : Nat, (lo : Int) ≤ z → z ≤ (hi : Int) → nkW (ρ x) lo hi) (hz2 : z ≤ (36893488147419103232 : Nat)) : ∀ {cs : List Nat} {lo : Nat}, (lo : Int) ≤ z → ∃ S' ∈ nk_spx S x lo cs, S'.1 = S.1 ∧ nkR E nL Ws H0 S' ρ H locs ls st
  | [], lo, hl => by
    obtain ⟨S1, k1, k2, k3⟩ := nk_ref_ok h (hz lo 36893488147419103232 hl hz2)
    refine ⟨S1, ?_, k2, k3⟩
    unfold nk_spx
    rw [k1]
    exact List.mem_cons_self
  | c :: r, lo, hl => by
    unfold nk_spx
    by_cases hc : z ≤ (c : Int)
    · obtain ⟨S1, k1, k2, k3⟩ := nk_ref_ok h (hz lo c hl hc)
      refine ⟨S1, ?_, k2, k3⟩
      rw [k1]
      exact List.mem_append_left _ List.mem_cons_self
    · obtain ⟨S1, k1, k2⟩ := nk_spx_ok h hz hz2 (cs := r) (lo := c + 1) (by omega)
      exact ⟨S1, List.mem_append_right _ k1, k2⟩
theorem nk_ld1_ok {S' : nkS} {o f : Nat} (h : nkR E nL Ws H0 S ρ H locs ls st) (hl : nk_ld1 E.2.1 S o f = some S') : S.1 ≤ S'.1 ∧ ∃ ρ', nkX S.1 ρ ρ' ∧ nkR E nL Ws H0 S' ρ' H locs ls st := by
  unfold nk_ld1 at hl
  split at hl
  · rename_i kn hkn
    split at hl
    · rename_i k hk
      rw [nk_nth_eq] at hk
      split at hl
      · rename_i hc
        rw [Bool.and_eq_true] at hc
        have c1 := nk_blt hc.1
        have c2 := nk_blt hc.2
        cases hl
        obtain ⟨lo, a, ea, eΓ⟩ := nk_kn_ok (E := E) h.1.1 hkn
        have hka : E.2.1[E.2.2 a]? = some k := by rw [eΓ]; exact hk
        have hcell := h.1.2.2.2.2.1 a k hka
        have key : ∃ (cell : Cell) (x : Value), H[a]? = some cell ∧ cell.slots[nkSl E.1 k f]? = some x ∧ nkOk E.2.2 (nk_ty k f) x := by
          obtain ⟨t, ci, N, P, avs⟩ := k
          dsimp only at c1 c2
          rcases (show t = 0 ∨ t = 1 by omega) with rfl | rfl
          · obtain ⟨V, ⟨cell, q1, q2, q3, q4⟩, hV2⟩ := hcell
            exact ⟨cell, V f, q1, q4 f c1, hV2 f c1⟩
          · obtain ⟨z, hz1, hz2⟩ := hcell
            exact ⟨_, z f, hz1, arrV_read _ z c1, hz2 f c1⟩
        obtain ⟨cell, x, k1, k2, k3⟩ := key
        obtain ⟨⟨b1, b2, b3, b4, b5⟩, ⟨b6, b7, b8⟩, b9, b10⟩ := h
        have hX := nkX.push S.1 ρ x
        have hle : S.1 ≤ S.1 + 1 := Nat.le_succ _
        refine ⟨hle, updV ρ S.1 x, hX, ⟨b1.push k3, fun q hq => ?_, b3.mono hX hle, b4.mono hX hle, b5⟩, ⟨b6, b7, b8.mono hX hle⟩, nkSt.mono hX hle b9, b10⟩
        rcases List.mem_cons.mp hq with rfl | hq
        · refine ⟨Nat.lt_succ_of_lt lo, Nat.lt_succ_self _, a, k, cell, ?_, hka, c1, k1, ?_⟩
          · dsimp only
            rw [hX o lo]
            exact ea
          · dsimp only
            rw [nk_upd]
            exact k2
        · exact b2.mono hX hle q hq
      · cases hl
    · cases hl
  · cases hl
theorem nk_lds_ok : ∀ {fs : List Nat} {S : nkS} {ρ : Nat → Value} {o : Nat}, nkR E nL Ws H0 S ρ H locs ls st → S.1 ≤ (nk_lds E.2.1 S o fs).1 ∧ ∃ ρ', nkX S.1 ρ ρ' ∧ nkR E nL Ws H0 (nk_lds E.2.1 S o fs) ρ' H locs ls st
  | [], S, ρ, o, h => ⟨Nat.le_refl _, ρ, nkX.rf _ _, h⟩
  | f :: r, S, ρ, o, h => by
    unfold nk_lds
    split
    · exact nk_lds_ok h
    · split
      · rename_i S' hS'
        obtain ⟨h1, ρ1, h2, h3⟩ := nk_ld1_ok h hS'
        obtain ⟨h4, ρ2, h5, h6⟩ := nk_lds_ok (fs := r) (o := S.1) h3
        exact ⟨Nat.le_trans h1 h4, ρ2, h2.tr h1 h5, h6⟩
      · exact ⟨Nat.le_refl _, ρ, nkX.rf _ _, h⟩
theorem nk_spl_ok {pc : Nat} : ∀ {sp : nkSp} {S : nkS} {ρ : Nat → Value}, nkR E nL Ws H0 S ρ H locs ls st → ∃ S' ∈ nk_spl E.2.1 sp pc S, S.1 ≤ S'.1 ∧ ∃ ρ', nkX S.1 ρ ρ' ∧ nkR E nL Ws H0 S' ρ' H locs ls st
  | [], S, ρ, h => ⟨S, List.mem_cons_self, Nat.le_refl _, ρ, nkX.rf _ _, h⟩
  | q :: r, S, ρ, h => by
    unfold nk_spl
    split
    · split
      · split
        · rename_i o ho
          obtain ⟨h1, ρ1, h2, h3⟩ := nk_lds_ok (fs := q.2.2) (o := o) h
          obtain ⟨S', g1, g2, ρ2, g3, g4⟩ := nk_spl_ok (sp := r) h3
          exact ⟨S', g1, Nat.le_trans h1 g2, ρ2, h2.tr h1 g3, g4⟩
        · exact nk_spl_ok h
      · split
        · rename_i x hx
          split
          · rename_i hi
            have hfin : ∃ S' ∈ nk_spx S x 0 q.2.2, S'.1 = S.1 ∧ nkR E nL Ws H0 S' ρ H locs ls st := by
              unfold nk_il at hi
              split at hi
              · rename_i v hv
                have hi := nk_blt hi
                have hc := nk_cat_ok (h.1.1 x v hv)
                rcases (show nk_cat v = 0 ∨ nk_cat v = 1 by omega) with h0 | h0
                · obtain ⟨a, ea⟩ := hc.1 h0
                  have ra := fb_rng a
                  exact nk_spx_ok (z := a.toInt + 18446744073709551616) h (fun lo hi h1 h2 => Or.inl ⟨a, ea, h1, h2⟩) (by omega) (by omega)
                · obtain ⟨a, ea⟩ := hc.2.1 h0
                  have ra := fb_rngL a
                  exact nk_spx_ok (z := a.toInt + 18446744073709551616) h (fun lo hi h1 h2 => Or.inr ⟨a, ea, h1, h2⟩) (by omega) (by omega)
              · cases hi
            obtain ⟨S', g1, g2, g3⟩ := hfin
            exact ⟨S', g1, by rw [g2]; exact Nat.le_refl _, ρ, nkX.rf _ _, g3⟩
          · exact ⟨S, List.mem_cons_self, Nat.le_refl _, ρ, nkX.rf _ _, h⟩
        · exact ⟨S, List.mem_cons_self, Nat.le_refl _, ρ, nkX.rf _ _, h⟩
    · exact nk_spl_ok h
end NK40b
/-! the run -/
/-- which rows an instruction goes to -/
def nk_cls (i : Instr) : Nat := match i with
  | .iload _ => 1
  | .iload_n _ => 1
  | .lload _ => 1
  | .lload_n _ => 1
  | .aload _ => 1
  | .aload_n _ => 1
  | .istore _ => 2
  | .istore_n _ => 2
  | .lstore _ => 2
  | .lstore_n _ => 2
  | .astore _ => 2
  | .astore_n _ => 2
  | .iinc _ _ => 3
  | .dup => 4
  | .pop => 4
  | .dup2 => 4
  | .if_icmp _ _ => 5
  | .ifCond _ _ => 5
  | .goto _ => 5
  | .ifnull _ => 5
  | .ifnonnull _ => 5
  | .tableswitch _ _ _ _ => 5
  | .lookupswitch _ _ => 5
  | .getfield _ => 6
  | .putfield _ => 7
  | .iaload => 8
  | .baload => 8
  | .laload => 8
  | .aaload => 8
  | .iastore => 9
  | .bastore => 9
  | .lastore => 9
  | .arraylength => 10
  | .ldc _ => 11
  | .ldc_w _ => 11
  | .ldc2_w _ => 11
  | .invokevirtual _ => 12
  | .invokestatic _ => 12
  | .ireturn => 13
  | .lreturn => 13
  | .areturn => 13
  | .return_ => 13
  | _ => 0
def nk_inv (i : Instr) : Option (Nat × Bool) := match i with
  | .invokevirtual idx => some (idx, false)
  | .invokestatic idx => some (idx, true)
  | _ => none
def nk_dk (dt : nhDt) (pc : Nat) : Option (Instr × Nat) := match dt with
  | [] => none
  | q :: r => match Nat.beq q.1 pc with
    | true => some q.2
    | false => nk_dk r pc
theorem nk_dk_ok {cc : ByteArray} {dt : nhDt} (h : nh_dtB cc dt = true) {pc : Nat} {q : Instr × Nat} (hq : nk_dk dt pc = some q) : decode cc pc = .ok q := by
  refine nh_dk_ok h (dt := dt) ?_
  clear h
  induction dt with
  | nil => cases hq
  | cons w r ih =>
    unfold nk_dk at hq
    unfold nh_dk
    rw [nk_beq] at hq
    split at hq
    · rename_i e
      rw [if_pos e]
      exact hq
    · rename_i e
      rw [if_neg (by rw [e]; decide)]
      exact ih hq
/-- a method: own class, number of locals, code, what it returns, splits -/
abbrev nkMd : Type := Nat × Nat × nhDt × Option FieldType × nkSp
abbrev nkCe : Type := Nat × nkS × nkMs
abbrev nkCs : Type := List nkCe × Nat × Option nkMs
def nk_on (o : Option nkS) (pc : Nat) : Option nkSu := match o with
  | some S => some [(S, pc)]
  | none => none
def nk_step (kd : List nkKd) (Ws : nkWs) (own nL : Nat) (S : nkS) (pc : Nat) (i : Instr) (len : Nat) : Option nkSu := match nk_cls i with
  | 0 => nk_on (nk_sOp S i len) (pc + len)
  | 1 => nk_on (nk_sLd S i len) (pc + len)
  | 2 => nk_on (nk_sSt S nL i len) (pc + len)
  | 3 => nk_on (nk_sInc S nL i len) (pc + len)
  | 4 => nk_on (nk_sSk S i len) (pc + len)
  | 5 => nk_sBr S pc i len
  | 6 => nk_on (nk_sGet kd own S i len) (pc + len)
  | 7 => nk_on (nk_sPut kd Ws own S i len) (pc + len)
  | 8 => nk_on (nk_sAld kd S i len) (pc + len)
  | 9 => nk_on (nk_sAst kd Ws S i len) (pc + len)
  | 10 => nk_on (nk_sLen kd S i len) (pc + len)
  | 11 => match nk_sLdc own S i len with
    | some S' => some [(S', pc + len)]
    | none => nk_on (nk_sLds kd own S i len) (pc + len)
  | _ => none
/-- the arguments as locals -/
def nk_lo0 (S : nkS) : Nat → List Nat → Option (List (Nat × Nat))
  | _, [] => some []
  | n, j :: r => match nk_g S.2.1 S.1 j with
    | some v => match nk_cat v with
      | 0 => match nk_lo0 S (n + 1) r with
        | some l => some ((n, j) :: l)
        | none => none
      | 1 => match nk_lo0 S (n + 2) r with
        | some l => some ((n, j) :: l)
        | none => none
      | 2 => match nk_lo0 S (n + 1) r with
        | some l => some ((n, j) :: l)
        | none => none
      | _ => none
    | none => none
def nk_w1 (v : nkV) : Nat := match nk_cat v with
  | 1 => 2
  | _ => 1
def nk_wid (S : nkS) : List Nat → Nat
  | [] => 0
  | j :: r => match nk_g S.2.1 S.1 j with
    | some v => nk_w1 v + nk_wid S r
    | none => 1 + nk_wid S r
def nk_has : List nkIn → Nat → Bool
  | [], _ => false
  | en :: r, mn => match Nat.beq en.1 mn with
    | true => true
    | false => nk_has r mn
/-- one instance -/
def nk_one (en : nkIn) (nLy fr lo : Nat) (Ws : nkWs) (S : nkS) (rest : List Nat) (as : List Nat) : Option (List nkS) :=
  match Nat.blt en.2.1 fr && (Nat.ble (8 + (nLy + 11) + en.2.2.1) lo && (Nat.beq as.length en.2.2.2.1 && nk_sub en.2.2.2.2.2.1 Ws)) with
  | true => match nk_bMe S.2.2.2.2.1 en.2.2.2.2.1.2.2.2.2.1 (en.2.2.2.1, as) with
    | some σ => match Nat.beq σ.1 en.2.2.2.2.1.1 && (nk_fitV S σ.2 en.2.2.2.2.1.2.1 && nk_diB S σ en.2.2.2.2.1.2.2.2.2.2.1) with
      | true => some (nk_afts S rest σ.1 σ en.2.2.2.2.2.1 en.2.2.2.2.2.2)
      | false => none
    | none => none
  | false => none
def nk_pick (nLy fr lo : Nat) (Ws : nkWs) (S : nkS) (rest : List Nat) (as : List Nat) (mn : Nat) : List nkIn → Option (List nkS)
  | [] => none
  | en :: r => match Nat.beq en.1 mn with
    | true => match nk_one en nLy fr lo Ws S rest as with
      | some L => some L
      | none => nk_pick nLy fr lo Ws S rest as mn r
    | false => nk_pick nLy fr lo Ws S rest as mn r
/-- behind a call that was walked through -/
def nk_back (S : nkS) (rest : List Nat) : List nkS → List nkS
  | [] => []
  | F :: r => (F.1, F.2.1, S.2.2.1, F.2.2.2.1 ++ rest, F.2.2.2.2) :: nk_back S rest r
def nk_recv (kd : List nkKd) (S : nkS) (as : List Nat) (mn : Nat) : Bool := match as with
  | [] => false
  | [o] => match nk_kn S o, nk_nth nhMo mn with
    | some kn, some c => match nk_nth kd kn with
      | some k => Nat.beq k.1 0 && (Nat.beq k.2.1 c && (Nat.blt c 13 && !(Nat.beq c 8)))
      | none => false
    | _, _ => false
  | _ :: r => nk_recv kd S r mn
def nk_cal (kd : List nkKd) (IT : List nkIn) (run : Nat → nhMth → nkS → Option (List nkS)) (own fr lo : Nat) (Ws : nkWs) (S : nkS) (i : Instr) (len : Nat) : Option (List nkS) := match nk_inv i with
  | some q => match nk_find (nhLn.getD own []) q.1 with
    | some mn => match nk_nth nhMt mn with
      | some y => match Nat.beq len 3 && (nk_bq y.2.2.2.2.1 q.2 && (Nat.ble (y.2.2.2.2.2 + cond q.2 0 1) S.2.2.2.1.length && ((q.2 || nk_recv kd S (S.2.2.2.1.take (y.2.2.2.2.2 + 1)) mn) && nk_r8 S (S.2.2.2.1.drop (y.2.2.2.2.2 + cond q.2 0 1)) 3))) with
        | true => match nk_has IT mn with
          | true => nk_pick y.2.2.1 fr lo Ws S (S.2.2.2.1.drop (y.2.2.2.2.2 + cond q.2 0 1)) (S.2.2.2.1.take (y.2.2.2.2.2 + cond q.2 0 1)) mn IT
          | false => match Nat.ble 1 fr && Nat.ble (8 + (y.2.2.1 + 11)) lo with
            | true => match nk_lo0 S 0 (S.2.2.2.1.take (y.2.2.2.2.2 + cond q.2 0 1)).reverse with
              | some lo0 => match Nat.ble (nk_wid S (S.2.2.2.1.take (y.2.2.2.2.2 + cond q.2 0 1)).reverse) y.2.2.1 with
                | true => match run mn y (S.1, S.2.1, lo0, [], S.2.2.2.2) with
                  | some L => some (nk_back S (S.2.2.2.1.drop (y.2.2.2.2.2 + cond q.2 0 1)) L)
                  | none => none
                | false => none
              | none => none
            | false => none
        | false => none
      | none => none
    | none => match Nat.beq len 3 && (Nat.ble 1 fr && Nat.ble 60 lo) with
      | true => match nk_sNat kd Ws own S i len with
        | some S' => some [S']
        | none => match nk_sStr kd own fr lo S i len with
          | some S' => some [S']
          | none => none
      | false => none
  | none => none
def nk_isC : List nkCe → Nat → Bool
  | [], _ => false
  | ce :: r, pc => match Nat.beq ce.1 pc with
    | true => true
    | false => nk_isC r pc
def nk_mpM (σ : nkSg) : nkMs → Option nkMs
  | [] => some []
  | q :: r => match nk_mpM σ r with
    | some r' => match q.1 with
      | 0 => some (q :: r')
      | _ => match nk_g σ.2 σ.1 q.2.1 with
        | some j => some ((q.1, j, q.2.2) :: r')
        | none => none
    | none => none
/-- a state comes to a certificate, with less to go -/
def nk_ced (np : Nat) (om : Option nkMs) (S : nkS) (ce : nkCe) : Bool := match nk_ent np ce.2.1 S with
  | some σ => match om with
    | none => true
    | some ms => match nk_mpM σ ce.2.2 with
      | some ms' => nk_lex S ms ms' && nk_bnd ms'
      | none => false
  | none => false
def nk_ceds (np : Nat) (om : Option nkMs) (S : nkS) (pc : Nat) : List nkCe → Bool
  | [] => false
  | ce :: r => match Nat.beq ce.1 pc && nk_ced np om S ce with
    | true => true
    | false => nk_ceds np om S pc r
def nk_go (C : nkCs) (run : nkS → Option (List nkS)) (S : nkS) (pc : Nat) : Option (List nkS) := match nk_isC C.1 pc && nk_ceds C.2.1 C.2.2 S pc C.1 with
  | true => some []
  | false => run S
def nk_gos (C : nkCs) (run : nkS → Option (List nkS)) (pc : Nat) : List nkS → Option (List nkS)
  | [] => some []
  | S :: r => match nk_go C run S pc with
    | some a => match nk_gos C run pc r with
      | some b => some (a ++ b)
      | none => none
    | none => none
def nk_all (kd : List nkKd) (C : nkCs) (sp : nkSp) (run : Nat → nkS → Option (List nkS)) : nkSu → Option (List nkS)
  | [] => some []
  | q :: r => match nk_gos C (run q.2) q.2 (nk_spl kd sp q.2 q.1) with
    | some a => match nk_all kd C sp run r with
      | some b => some (a ++ b)
      | none => none
    | none => none
def nk_at3 (pc : Nat) : List nkS → nkSu
  | [] => []
  | S :: r => (S, pc) :: nk_at3 pc r
def nk_spt (sp : List (Nat × nkSp)) (mn : Nat) : nkSp := match sp with
  | [] => []
  | q :: r => match Nat.beq q.1 mn with
    | true => q.2
    | false => nk_spt r mn
def nk_nD {α : Type} (l : List α) (n : Nat) (d : α) : α := match nk_nth l n with
  | some x => x
  | none => d
def nk_md (spt : List (Nat × nkSp)) (mn : Nat) (y : nhMth) : nkMd := (nk_nD nhMo mn 99, y.2.2.1, nk_nD nhDa mn [], y.2.2.2.1, nk_spt spt mn)
def nk_run (kd : List nkKd) (IT : List nkIn) (spt : List (Nat × nkSp)) : Nat → nkMd → nkCs → Nat → Nat → nkWs → nkS → Nat → Option (List nkS)
  | 0, _, _, _, _, _, _, _ => none
  | f + 1, M, C, fr, lo, Ws, S, pc => match nk_dk M.2.2.1 pc with
    | some q => match nk_cls q.1 with
      | 13 => match nk_sRet M.2.2.2.1 S q.1 q.2 with
        | true => some [S]
        | false => none
      | 12 => match nk_cal kd IT (fun mn y S' => nk_run kd IT spt f (nk_md spt mn y) ([], 0, none) (fr - 1) (lo - (8 + (y.2.2.1 + 11))) Ws S' 0) M.1 fr lo Ws S q.1 q.2 with
        | some L => nk_all kd C M.2.2.2.2 (fun pc' S' => nk_run kd IT spt f M C fr lo Ws S' pc') (nk_at3 (pc + 3) L)
        | none => none
      | _ => match nk_step kd Ws M.1 M.2.1 S pc q.1 q.2 with
        | some L => nk_all kd C M.2.2.2.2 (fun pc' S' => nk_run kd IT spt f M C fr lo Ws S' pc') L
        | none => none
    | none => none
