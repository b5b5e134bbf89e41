/-! known values: the run of a method, and of what it calls -/
abbrev ceO : Type := Option ceV × ceHp × Nat × Nat
def ce_one (own nL : Nat) (ini : Bool) (pc : Nat) (i : Instr) (len : Nat) (lo : List (Nat × ceV)) (st : List ceV) (hp : ceHp) : Option ceS := match nh_cls i with
  | 0 => match i with
    | .aastore => ce_arr pc i len lo st hp
    | .invokespecial _ => ce_nat own pc i len lo st hp
    | _ => match ce_op i len st with
      | some q => some (pc + len, lo, q.2 :: st.drop q.1, hp)
      | none => none
  | 3 => ce_inc nL pc i len lo st hp
  | 5 => ce_br pc i len lo st hp
  | 6 => ce_fld own ini pc i len lo st hp
  | 7 => ce_fld own ini pc i len lo st hp
  | 8 => ce_arr pc i len lo st hp
  | 9 => ce_arr pc i len lo st hp
  | 10 => ce_arr pc i len lo st hp
  | 11 => ce_ldc own pc i len lo st hp
  | 12 => ce_nat own pc i len lo st hp
  | _ => ce_mov nL pc i len lo st hp
def ce_isN (i : Instr) : Bool := match i with
  | .new _ => true
  | .newarray _ => true
  | .anewarray _ => true
  | _ => false
/-- the table in pieces: sixteen bytes of code to a piece -/
def ce_ck (dt : nhDt) : List nhDt := (List.range 128).map (fun k => dt.filter (fun q => Nat.beq (q.1 / 16) k))
def ce_lk (dt : nhDt) (pc : Nat) : Option (Instr × Nat) := match dt with
  | [] => none
  | q :: r => match Nat.beq q.1 pc with
    | true => some q.2
    | false => ce_lk r pc
def ce_dk (dt : List nhDt) (pc : Nat) : Option (Instr × Nat) := ce_lk (dt.getD (pc / 16) []) pc
theorem ce_lk_mem {dt : nhDt} {pc : Nat} {q : Instr × Nat} (h : ce_lk dt pc = some q) : (pc, q) ∈ dt := by
  induction dt with
  | nil => cases h
  | cons w r ih =>
    unfold ce_lk at h
    split at h
    · rename_i e1
      cases h
      have : w.1 = pc := Nat.eq_of_beq_eq_true e1
      rw [← this]
      exact List.mem_cons_self
    · exact List.mem_cons_of_mem _ (ih h)
/-- a number, counted out before it is handed on -/
def ce_fN {α : Type} (n : Nat) (k : Nat → α) : α := match n with
  | 0 => k 0
  | n + 1 => k (n + 1)
theorem ce_fN_eq {α : Type} (n : Nat) (k : Nat → α) : ce_fN n k = k n := by
  cases n <;> rfl
theorem ce_dk_ok {cc : ByteArray} {dt : nhDt} (h : nh_dtB cc dt = true) {pc : Nat} {q : Instr × Nat} (hq : ce_dk (ce_ck dt) pc = some q) : decode cc pc = .ok q := by
  have h1 := ce_lk_mem hq
  unfold ce_ck at h1
  rw [List.getD_eq_getElem?_getD, List.getElem?_map] at h1
  have h2 : (pc, q) ∈ dt := by
    cases hr : (List.range 128)[pc / 16]? with
    | none => rw [hr] at h1; cases h1
    | some k => rw [hr] at h1; exact (List.mem_filter.mp h1).1
  have h3 := List.all_eq_true.mp h _ h2
  dsimp only at h3
  split at h3
  · rename_i r hr
    rw [hr, of_decide_eq_true h3]
  · cases h3
def ce_run (call : Nat → List ceV → ceHp → Option ceO) (own nL : Nat) (ini : Bool) (dt : List nhDt) (rt : Option FieldType) : Nat → ceS → Nat → Nat → Option ceO
  | 0, _, _, _ => none
  | f + 1, S, cn, cz => ce_fN S.1 (fun pc => match ce_dk dt pc with
    | some w => if nh_cls w.1 = 13 then (match ce_ret rt w.1 w.2 S.2.2.1 with
        | some r => some (r, S.2.2.2, cn, cz)
        | none => none)
      else if ce_isN w.1 = true then (match ce_new own pc w.1 w.2 S.2.1 S.2.2.1 S.2.2.2 with
        | some q => ce_run call own nL ini dt rt f q.1 (cn + 1) (cz + q.2)
        | none => none)
      else (match ce_one own nL ini pc w.1 w.2 S.2.1 S.2.2.1 S.2.2.2 with
        | some S' => ce_run call own nL ini dt rt f S' cn cz
        | none => match ce_cl own w.1 S.2.2.1 S.2.2.2 with
          | some q => if w.2 = 3 then (match call q.1 q.2.1 S.2.2.2 with
            | some o => ce_run call own nL ini dt rt f (pc + 3, S.2.1, o.1.toList ++ q.2.2, o.2.1) (cn + o.2.2.1) (cz + o.2.2.2)
            | none => none) else none
          | none => none)
    | none => none)
def ce_lo0 : Nat → List ceV → List (Nat × ceV)
  | _, [] => []
  | n, v :: r => (n, v) :: ce_lo0 (if ce_ty v = 1 then n + 2 else n + 1) r
def ce_exec (fuel : Nat) : Nat → Nat → List ceV → ceHp → Option ceO
  | 0, _, _, _ => none
  | d + 1, mn, as, hp => match ce_m mn with
    | some y => if nhOw[ce_ow mn]? = some y.1.cls ∧ ce_sum as ≤ y.2.2.1 then ce_run (ce_exec fuel d) (ce_ow mn) y.2.2.1 (decide (1000 ≤ mn)) (ce_ck (ce_dt mn)) y.2.2.2.1 fuel (0, ce_lo0 0 as, [], hp) 0 0 else none
    | none => none
theorem ce_run_mono {call : Nat → List ceV → ceHp → Option ceO} {own nL : Nat} {ini : Bool} {dt : List nhDt} {rt : Option FieldType} : ∀ {f : Nat} {S : ceS} {cn cz : Nat} {r : Option ceV} {hp : ceHp} {a b : Nat}, ce_run call own nL ini dt rt f S cn cz = some (r, hp, a, b) → cn ≤ a ∧ cz ≤ b
  | 0, _, _, _, _, _, _, _, h => by cases h
  | f + 1, S, cn, cz, r, hp, a, b, h => by
    unfold ce_run at h
    rw [ce_fN_eq] at h
    split at h
    · split at h
      · split at h
        · cases h; exact ⟨Nat.le_refl _, Nat.le_refl _⟩
        · cases h
      · split at h
        · split at h
          · have := ce_run_mono h; omega
          · cases h
        · split at h
          · exact ce_run_mono h
          · split at h
            · split at h
              · split at h
                · have := ce_run_mono h; omega
                · cases h
              · cases h
            · cases h
    · cases h
section CE8
variable {p : Program} {l : Launch} {e : Env} {R : Room} {s : State} {m : MethodId} {args : Array Value} {below : List Frame} {meth : Method} {c : Code} {Q : State → Prop} {cc : ByteArray} {own : Nat} {D : nhD} {ρ : Nat → Int32} {B : Nat} {H0 : Heap} {nL : Nat}
theorem ce_one_ok (hF : nhFx p c s m args cc nL own D) {ini : Bool} (hini : ini = true → meth.name = "<init>") (hf : 1 ≤ R.frames) (hlo : 60 ≤ R.locals) {cn cz pc : Nat} (hc1 : cn ≤ R.cells) (hc2 : cz ≤ R.slots) {i : Instr} {len : Nat} (hd : decode cc pc = .ok (i, len)) {lo : List (Nat × ceV)} {st : List ceV} {hp : ceHp} {S' : ceS} (h : ce_one own nL ini pc i len lo st hp = some S')
    (k : ceGo p l e R s m args below meth c Q D ρ B H0 nL cn cz S') : ceGo p l e R s m args below meth c Q D ρ B H0 nL cn cz (pc, lo, st, hp) := by
  have hx := hF.1
  have hb := hF.2.1
  unfold ce_one at h
  split at h
  · split at h
    · exact ce_arr_ok hF hd h k
    · exact ce_nat_ok hF hf hlo hc1 hc2 hd h k
    · split at h
      · rename_i q hq
        cases h
        exact fun H locs ls hR => ce_op_ok ρ B hx hb hq hd (k H locs ls hR)
      · cases h
  · exact ce_inc_ok hx hb hd h k
  · exact ce_br_ok hx hb hd h k
  · exact ce_fld_ok hF hini hd h k
  · exact ce_fld_ok hF hini hd h k
  · exact ce_arr_ok hF hd h k
  · exact ce_arr_ok hF hd h k
  · exact ce_arr_ok hF hd h k
  · exact ce_ldc_ok hF hd h k
  · exact ce_nat_ok hF hf hlo hc1 hc2 hd h k
  · exact ce_mov_ok hx hb hd h k
theorem ce_run_ok (hF : nhFx p c s m args cc nL own D) {dt : List nhDt} (hdt : ∀ (pc : Nat) (q : Instr × Nat), ce_dk dt pc = some q → decode cc pc = .ok q) (hNs : ceNs s) {ini : Bool} (hini : ini = true → meth.name = "<init>") {rt : Option FieldType} (hr : meth.sig.returnType = rt) (hlocks : meth.locks = false) {d : Nat} {call : Nat → List ceV → ceHp → Option ceO} (hcall : ∀ mn as hp r hp' c1 z1, call mn as hp = some (r, hp', c1, z1) → ∃ y, ce_m mn = some y ∧ ceMet y d as hp r hp' c1 z1) {rv : Option ceV} {hpE : ceHp} {C Z : Nat} (hRm : R = ceRm (d + 1) C Z) :
    ∀ (f : Nat) (S : ceS) (cn cz : Nat), ce_run call own nL ini dt rt f S cn cz = some (rv, hpE, C, Z) → ceGo p l e R s m args below meth c (MQ below (ceQc D ρ B H0 rv hpE) args s C Z (fun a => B ≤ a)) D ρ B H0 nL cn cz S
  | 0, _, _, _, h => by cases h
  | f + 1, S, cn, cz, h => by
    have hmono := ce_run_mono h
    obtain ⟨pc, lo, st, hp⟩ := S
    have hf1 : 1 ≤ R.frames := by rw [hRm]; show 1 ≤ d + 1; omega
    have hlo1 : 60 ≤ R.locals := by rw [hRm]; show 60 ≤ 60 * (d + 1); omega
    have hC1 : R.cells = C := by rw [hRm]; rfl
    have hZ1 : R.slots = Z := by rw [hRm]; rfl
    unfold ce_run at h
    rw [ce_fN_eq] at h
    split at h
    · rename_i w hw'
      have hw : decode cc pc = .ok w := hdt _ _ hw'
      split at h
      · split at h
        · rename_i r hret
          cases h
          exact ce_ret_ok hF.1 hF.2.1 hr hlocks hw hret
        · cases h
      · split at h
        · split at h
          · rename_i q hq
            have hm2 := ce_run_mono h
            exact ce_new_ok hF hNs.2 hw hq (by omega) (by omega) (ce_run_ok hF hdt hNs hini hr hlocks hcall hRm f _ _ _ h)
          · cases h
        · split at h
          · rename_i S' hS'
            exact ce_one_ok hF hini hf1 hlo1 (by omega) (by omega) hw hS' (ce_run_ok hF hdt hNs hini hr hlocks hcall hRm f _ _ _ h)
          · split at h
            · rename_i q hq
              split at h
              · rename_i h3
                split at h
                · rename_i o ho
                  have hm2 := ce_run_mono h
                  obtain ⟨r1, hp1, c1, z1⟩ := o
                  dsimp only at hm2
                  obtain ⟨y, hy, hM⟩ := hcall _ _ _ _ _ _ _ ho
                  have hw' : decode cc pc = .ok (w.1, 3) := by rw [hw, ← h3]
                  exact ce_cl_ok hF hNs hRm (mn := q.1) (as := q.2.1) (rest := q.2.2) hq hw' hy hM (by omega) (by omega) (ce_run_ok hF hdt hNs hini hr hlocks hcall hRm f _ _ _ h)
                · cases h
              · cases h
            · cases h
    · cases h
end CE8
theorem ce_lo0_eq (ρ : Nat → Int32) (B : Nat) : ∀ (as : List ceV) (n : Nat), (ce_lo0 n as).map (fun q => (q.1, ce_c ρ B q.2)) = lv_args n (as.map (ce_c ρ B))
  | [], _ => rfl
  | v :: r, n => by
    simp only [ce_lo0, List.map_cons, lv_args]
    rw [ce_lo0_eq ρ B r, ce_cat]
    by_cases h : ce_ty v = 1
    · simp [h]
    · simp [h]
theorem ce_slen (ρ : Nat → Int32) (B : Nat) : ∀ (as : List ceV), (lg_sl (as.map (ce_c ρ B))).length = ce_sum as
  | [] => rfl
  | v :: r => by
    have ih := ce_slen ρ B r
    simp only [lg_sl, List.map_cons, List.flatMap_cons, List.length_append, ce_sum, List.sum_cons] at ih ⊢
    rw [ih, ce_cat]
    by_cases h : ce_ty v = 1
    · simp [h]
    · simp [h]
theorem ce_exec_ok (fuel : Nat) : ∀ (d mn : Nat) (as : List ceV) (hp : ceHp) (r : Option ceV) (hp' : ceHp) (c1 z1 : Nat), ce_exec fuel d mn as hp = some (r, hp', c1, z1) → ∃ y, ce_m mn = some y ∧ ceMet y d as hp r hp' c1 z1
  | 0, _, _, _, _, _, _, _, h => by cases h
  | d + 1, mn, as, hp, r, hp', c1, z1, h => by
    unfold ce_exec at h
    split at h
    · rename_i y hy
      refine ⟨y, hy, ?_⟩
      split at h
      · rename_i hcs
        · obtain ⟨hC, hsum⟩ := hcs
          have hcls : Cond.code y.1 y.2.1 y.2.2.1 y.2.2.2.1 ∈ nhTb ∧ plainName y.1.cls = true ∧ (decide (1000 ≤ mn) = true → y.1.name = "<init>") := by
            unfold ce_m at hy
            split at hy
            · rename_i hlt
              obtain ⟨m1, m2, m3, m4, m5, m6⟩ := nh_mt_ok hy
              exact ⟨m1, m6, fun hq => absurd (of_decide_eq_true hq) (by omega)⟩
            · obtain ⟨m1, m2, m3, m4, m5⟩ := ce_ct_ok hy
              exact ⟨m1, m5, fun _ => m4.1⟩
          intro l D ρ B H0
          refine Met.ofW (cc := y.2.1) (maxL := y.2.2.1) (ret := y.2.2.2.1) hcls.2.1 rfl ?_
          intro p e s m args below meth c s₁ Bd hml hv
          obtain ⟨rfl, hH, hK, hNs⟩ := hv
          have hts := atoms_spec (ws := nhWs y) Bd.pre
          have hF : nhFx p c s m (as.map (ce_c ρ B)).toArray y.2.1 y.2.2.1 (ce_ow mn) D := ⟨Bd.exec, Bd.bytes, hml, ⟨_, hC, findClass_of_methodNamed Bd.named⟩, fun w hw => hts w (List.mem_cons_of_mem _ hw), hK⟩
          have hin : meth.name = y.1.name := (name_of_methodNamed Bd.named Bd.method).1
          have hlv := lv_entry (as.map (ce_c ρ B)) (n := y.2.2.1) (by rw [ce_slen]; exact hsum)
          rw [lg_entry_eq]
          generalize (lg_sl (as.map (ce_c ρ B)) ++ List.replicate (y.2.2.1 - (lg_sl (as.map (ce_c ρ B))).length) Slot.unset).toArray = ls at hlv ⊢
          refine ce_run_ok hF (fun _ _ hq => ce_dk_ok (ce_dt_ok hy) hq) hNs (fun hq => hin.trans (hcls.2.2 hq)) Bd.returns Bd.notSynchronized (fun mn as hp r hp' c1 z1 hc => ce_exec_ok fuel d mn as hp r hp' c1 z1 hc) rfl fuel _ 0 0 h s.heap [] ls ⟨hlv.1, hlv.2.1, fun q hq => ?_, hH, (fun q hq => by cases hq)⟩
          exact hlv.2.2 (q.1, ce_c ρ B q.2) (by rw [← ce_lo0_eq]; exact List.mem_map.mpr ⟨q, hq, rfl⟩)
      · cases h
    · cases h
