/-! known values: fields, arrays, constants, what is made -/
def ce_fit (ty : FieldType) (v : ceV) : Bool := match ty with
  | .int => ce_ty v == 0
  | .long => v.1 == 1
  | .boolean => v.1 == 0 && (v.2 == 0 || v.2 == 1)
  | .object _ => ce_ty v == 2
  | .array _ => ce_ty v == 2
  | _ => false
theorem ce_fit_ok (ρ : Nat → Int32) (B : Nat) {ty : FieldType} {v : ceV} (h : ce_fit ty v = true) : narrow ty (ce_c ρ B v) = ce_c ρ B v ∧ fits ty (ce_c ρ B v) = true := by
  have hc := ce_ty_ok ρ B (v := v)
  obtain ⟨t, x⟩ := v
  unfold ce_fit at h
  split at h
  · obtain ⟨a, e⟩ := hc.1 (by simpa using h)
    rw [e]
    exact ⟨rfl, rfl⟩
  · have : t = 1 := by simpa using h
    subst this
    exact ⟨rfl, rfl⟩
  · simp only [Bool.and_eq_true, Bool.or_eq_true, beq_iff_eq] at h
    obtain ⟨rfl, rfl | rfl⟩ := h
    · exact ⟨rfl, rfl⟩
    · exact ⟨rfl, rfl⟩
  · rcases hc.2.2 (by simpa using h) with e | ⟨a, e⟩ <;> rw [e] <;> exact ⟨rfl, rfl⟩
  · rcases hc.2.2 (by simpa using h) with e | ⟨a, e⟩ <;> rw [e] <;> exact ⟨rfl, rfl⟩
  · cases h
def ce_fld (own : Nat) (ini : Bool) (pc : Nat) (i : Instr) (len : Nat) (lo : List (Nat × ceV)) (st : List ceV) (hp : ceHp) : Option ceS := match i with
  | .getfield idx => match st with
    | (2, o) :: r => match ce_get hp o.toNat, nh_fk own idx with
      | some k, some q => match nhCl[q.2.1]? with
        | some z => if k.1 = 0 ∧ k.2.1 = q.2.1 ∧ k.2.2.length = z.2.2 ∧ len = 3 then some (pc + 3, lo, k.2.2.getD q.2.2.1 (3, 0) :: r, hp) else none
        | none => none
      | _, _ => none
    | _ => none
  | .putfield idx => match st with
    | v :: (2, o) :: r => match ce_get hp o.toNat, nh_fk own idx with
      | some k, some q => match nhCl[q.2.1]? with
        | some z => if k.1 = 0 ∧ k.2.1 = q.2.1 ∧ k.2.2.length = z.2.2 ∧ len = 3 ∧ ce_fit (nhFt q.2.1 q.2.2.1) v = true ∧ ((z.2.1 q.2.2.1).2.2.2 = true → ini = true ∧ nhOw[own]? = some (z.2.1 q.2.2.1).1) then some (pc + 3, lo, r, ce_set hp o.toNat (0, k.2.1, k.2.2.set q.2.2.1 v)) else none
        | none => none
      | _, _ => none
    | _ => none
  | _ => none
section CE3
variable {p : Program} {l : Launch} {e : Env} {R : Room} {s : State} {m : MethodId} {args : Array Value} {below : List Frame} {meth : Method} {c : Code} {Q : State → Prop} {cc : ByteArray} {pc own : Nat} {D : nhD} {ρ : Nat → Int32} {B : Nat} {H0 : Heap} {nL cn cz : Nat} {lo : List (Nat × ceV)} {st : List ceV} {hp : ceHp}
variable {H : Heap} {locs : List Loc} {ls : Array Slot} {rest : List Value} {cells slots : Nat}
theorem nh_putFW (hx : p.tables.exec = Jvm.exec) (hb : c.code = cc) (hts : ∀ w ∈ nhTb, w.before args s = true) (hK : nhK D s) {C : String} (hown : s.vm.findClass C = some m.cls) {ci k idx a : Nat} {r : vw_C} (hc : nhCl[ci]? = some r) (hk : k < r.2.2) (hl : Cond.fieldLink C idx (r.2.1 k).1 (r.2.1 k).2.1 (r.2.1 k).2.2.1 ∈ nhTb) (hfin : (r.2.1 k).2.2.2 = true) (hin2 : meth.name = "<init>") (hdecl : (r.2.1 k).1 = C) {V : Nat → Value} (hO : t_OB a (D.1 ci) r.2.2 (D.2.1 ci) H V) {v : Value} (hn : narrow (nhFt ci k) v = v) (hfit : fits (nhFt ci k) v = true) (hd : decode cc pc = .ok (.putfield idx, 3))
    (kk : ∀ (H' : Heap), t_OB a (D.1 ci) r.2.2 (D.2.1 ci) H' (updV V k v) → H'.size = H.size → (∀ q : Nat, q ≠ a → H'[q]? = H[q]?) → W p l e R s m args below meth c H' (locs ++ [⟨a, D.2.1 ci k⟩]) cells slots Q (F0 m (pc + 3) ls rest)) : W p l e R s m args below meth c H locs cells slots Q (F0 m pc ls (v :: .ref a :: rest)) := by
  obtain ⟨C', T, N⟩ := r
  obtain ⟨hin, hty, hnm⟩ := nhCl_in hc
  have hKv : va_K (D.1, D.2.1) nhCl [] s := ⟨hK.1, fun k q h => by simp at h⟩
  have hap := va_apart (own := C) hts hin (nhFt ci) hty hnm hKv hc
  obtain ⟨cell, q1, q2, q3, q4⟩ := hO
  obtain ⟨hS, hfc, kC, hkC, hkind⟩ := hK.1 ci _ hc
  obtain ⟨cf, kf, fi, f, hi, hsl⟩ := hS k hk
  have hlay := hts _ (hin _ (u_in_lay hk))
  unfold u_lay at hlay
  rw [if_pos hfin] at hlay
  have hst := (u_facts hfc hkC (u_lays hts hin hk) hi).1
  have hcf : m.cls = cf := by
    obtain ⟨_, _, c', _, _, _, -, -, hf', -, -, -, hown2, -⟩ := Cond.laysFinal_spec hlay
    have e1 : c' = cf := by have := hi.symm.trans hf'; simp at this; exact this.1.symm
    have hdecl' : (T k).1 = C := hdecl
    rw [hdecl'] at hown2
    rw [← e1]; exact Option.some.inj (hown.symm.trans hown2)
  have h6 := u_fits hfc hkC hkind (Or.inr hlay) hi (hty k hk) hn hfit
  refine W.putFinK hx hb hown (hts _ hl) hi hst hcf hin2 (by rw [q2]; exact h6) q1 q3 (by rw [hsl]; exact k2_hasslot (q4 k hk)) rfl rfl hd fun H' e1 e2 e3 => ?_
  rw [hsl] at e1 ⊢
  exact kk H' ⟨_, e1, q2, q3, t_set q4 hap hk v⟩ e2 e3
theorem ce_setV {ρ : Nat → Int32} {B : Nat} {fs : List ceV} {k : Nat} {v : ceV} (hk : k < fs.length) (j : Nat) : updV (fun k => ce_c ρ B (fs.getD k (3, 0))) k (ce_c ρ B v) j = ce_c ρ B ((fs.set k v).getD j (3, 0)) := by
  by_cases h : j = k
  · subst h
    simp [updV, hk]
  · simp [updV, h, List.getElem?_set, Ne.symm h]
theorem ce_locs {locs : List Loc} (h : ∀ q ∈ locs, B ≤ q.base) {a i : Nat} (ha : B ≤ a) : ∀ q ∈ locs ++ [⟨a, i⟩], B ≤ q.base := fun q hq => by
  rcases List.mem_append.mp hq with h1 | h1
  · exact h q h1
  · rw [List.mem_singleton] at h1
    subst h1
    exact ha
theorem ce_fld_ok (hF : nhFx p c s m args cc nL own D) {ini : Bool} (hini : ini = true → meth.name = "<init>") {i : Instr} {len : Nat} (hd : decode cc pc = .ok (i, len)) {S' : ceS} (h : ce_fld own ini pc i len lo st hp = some S')
    (k : ceGo p l e R s m args below meth c Q D ρ B H0 nL cn cz S') : ceGo p l e R s m args below meth c Q D ρ B H0 nL cn cz (pc, lo, st, hp) := by
  intro H locs ls hR
  obtain ⟨hx, hb, hml, ⟨C, hC, hown⟩, hts, hK⟩ := hF
  unfold ce_fld at h
  split at h
  · split at h
    · rename_i o r
      split at h
      · rename_i kk q hkk hq
        split at h
        · rename_i z hz
          split at h
          · rename_i hc
            obtain ⟨c1, c2, c3, rfl⟩ := hc
            cases h
            obtain ⟨f1, C', r', f2, f3, f4, f5⟩ := nh_fk_ok hq
            rw [hC] at f2; cases f2
            rw [hz] at f3; cases f3
            have hcell := hR.2.2.2.1.2.2 _ _ hkk
            obtain ⟨t, ci, fs⟩ := kk
            dsimp only at c1 c2 c3
            subst c1 c2
            unfold ceCell at hcell
            dsimp only at hcell
            rw [c3] at hcell
            exact nh_getW hx hb hts hK hown hz f4 f5 hcell hd (k H locs ls hR)
          · cases h
        · cases h
      · cases h
    · cases h
  · split at h
    · rename_i v o r
      split at h
      · rename_i kk q hkk hq
        split at h
        · rename_i z hz
          split at h
          · rename_i hc
            obtain ⟨c1, c2, c3, rfl, c5, c6⟩ := hc
            cases h
            obtain ⟨f1, C', r', f2, f3, f4, f5⟩ := nh_fk_ok hq
            rw [hC] at f2; cases f2
            rw [hz] at f3; cases f3
            have hcell := hR.2.2.2.1.2.2 _ _ hkk
            obtain ⟨t, ci, fs⟩ := kk
            dsimp only at c1 c2 c3
            subst c1 c2
            unfold ceCell at hcell
            dsimp only at hcell
            rw [c3] at hcell
            obtain ⟨n1, n2⟩ := ce_fit_ok ρ B c5
            have fin : ∀ (H' : Heap), t_OB (B + o.toNat) (D.1 q.2.1) z.2.2 (D.2.1 q.2.1) H' (updV (fun k => ce_c ρ B (fs.getD k (3, 0))) q.2.2.1 (ce_c ρ B v)) → H'.size = H.size → (∀ w : Nat, w ≠ B + o.toNat → H'[w]? = H[w]?) → W p l e R s m args below meth c H' (locs ++ [⟨B + o.toNat, D.2.1 q.2.1 q.2.2.1⟩]) cn cz Q (F0 m (pc + 3) ls (r.map (ce_c ρ B))) := by
              intro H' e2 e3 e4
              refine k H' _ ls ⟨hR.1, hR.2.1, hR.2.2.1, hR.2.2.2.1.put hkk ?_ e3 e4, ce_locs hR.2.2.2.2 (by omega)⟩
              unfold ceCell
              dsimp only
              rw [List.length_set, c3]
              exact e2.to (fun j hj => ce_setV (by omega) j)
            cases hfin : (z.2.1 q.2.2.1).2.2.2 with
            | false => exact nh_putW hx hb hts hK hown hz f4 f5 hfin hcell n1 n2 hd (fun H' cell e0 e1 eap e2 e3 e4 => fin H' e2 e3 e4)
            | true =>
              obtain ⟨d1, d2⟩ := c6 hfin
              rw [hC] at d2
              exact nh_putFW hx hb hts hK hown hz f4 f5 hfin (hini d1) (Option.some.inj d2).symm hcell n1 n2 hd fin
          · cases h
        · cases h
      · cases h
    · cases h
  · cases h
/-- what is kept of a value in an array -/
def ce_nar (i : Instr) (ti : Nat) (v : ceV) : Option ceV := match i, ti, v with
  | .iastore, 0, (0, x) => some (0, (Int32.ofInt x).toInt)
  | .iastore, 0, (t, x) => if 4 ≤ t then some (t, x) else none
  | .bastore, 1, (0, x) => some (0, ((Int32.ofInt x).toInt8.toInt32).toInt)
  | .bastore, 1, (t, x) => if 22 ≤ t ∧ t < 34 then some (t, x) else none
  | .bastore, 3, (0, x) => some (0, (Int32.ofInt x &&& 1).toInt)
  | .lastore, 2, (1, x) => some (1, (Int64.ofInt x).toInt)
  | _, _, _ => none
def ce_arr (pc : Nat) (i : Instr) (len : Nat) (lo : List (Nat × ceV)) (st : List ceV) (hp : ceHp) : Option ceS := if len = 1 then (match i with
  | .arraylength => match st with
    | (2, o) :: r => match ce_get hp o.toNat with
      | some k => if k.1 = 1 ∧ k.2.1 < 5 ∧ k.2.2.length < 2147483648 then some (pc + 1, lo, (0, (k.2.2.length : Int)) :: r, hp) else none
      | none => none
    | _ => none
  | .aastore => match st with
    | (2, v) :: (0, x) :: (2, o) :: r => match ce_get hp o.toNat, ce_get hp v.toNat with
      | some k, some kv => if k.1 = 1 ∧ k.2.1 = 4 ∧ kv.1 = 0 ∧ kv.2.1 = 4 ∧ 0 ≤ (Int32.ofInt x).toInt ∧ (Int32.ofInt x).toInt < k.2.2.length then some (pc + 1, lo, r, ce_set hp o.toNat (1, 4, k.2.2.set (Int32.ofInt x).toInt.toNat (2, v))) else none
      | _, _ => none
    | _ => none
  | i => match st with
    | (0, x) :: (2, o) :: r => match ce_get hp o.toNat with
      | some k => if k.1 = 1 ∧ nh_aI i k.2.1 = true ∧ 0 ≤ (Int32.ofInt x).toInt ∧ (Int32.ofInt x).toInt < k.2.2.length then some (pc + 1, lo, k.2.2.getD (Int32.ofInt x).toInt.toNat (3, 0) :: r, hp) else none
      | none => none
    | v :: (0, x) :: (2, o) :: r => match ce_get hp o.toNat with
      | some k => match ce_nar i k.2.1 v with
        | some w => if k.1 = 1 ∧ 0 ≤ (Int32.ofInt x).toInt ∧ (Int32.ofInt x).toInt < k.2.2.length then some (pc + 1, lo, r, ce_set hp o.toNat (1, k.2.1, k.2.2.set (Int32.ofInt x).toInt.toNat w)) else none
        | none => none
      | none => none
    | _ => none) else none
theorem ce_ixN {j : Int32} {n : Nat} (h1 : 0 ≤ j.toInt) (h2 : j.toInt < n) : j.toNatClampNeg = j.toInt.toNat := by
  have := (nh_ix h1 h2).2
  omega
end CE3
