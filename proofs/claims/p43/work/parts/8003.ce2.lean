/-! known values: moves, branches, fields, arrays -/
abbrev ceS : Type := Nat × List (Nat × ceV) × List ceV × ceHp
def ceGo (p : Program) (l : Launch) (e : Env) (R : Room) (s : State) (m : MethodId) (args : Array Value) (below : List Frame) (meth : Method) (c : Code) (Q : State → Prop) (D : nhD) (ρ : Nat → Int32) (B : Nat) (H0 : Heap) (nL cn cz : Nat) (S : ceS) : Prop :=
  ∀ (H : Heap) (locs : List Loc) (ls : Array Slot), ceRel D ρ B H0 nL S.2.1 S.2.2.2 H locs ls → W p l e R s m args below meth c H locs cn cz Q (F0 m S.1 ls (S.2.2.1.map (ce_c ρ B)))
def ce_ty (v : ceV) : Nat := match v.1 with
  | 0 => 0
  | 1 => 1
  | 2 => 2
  | 3 => 2
  | _ => 0
theorem ce_ty_ok (ρ : Nat → Int32) (B : Nat) {v : ceV} : (ce_ty v = 0 → ∃ a : Int32, ce_c ρ B v = .int a) ∧ (ce_ty v = 1 → ∃ a : Int64, ce_c ρ B v = .long a) ∧ (ce_ty v = 2 → ce_c ρ B v = .null ∨ ∃ a : Nat, ce_c ρ B v = .ref a) := by
  obtain ⟨t, x⟩ := v
  match t with
  | 0 => exact ⟨fun _ => ⟨_, rfl⟩, fun q => absurd (show (0 : Nat) = 1 from q) (by decide), fun q => absurd (show (0 : Nat) = 2 from q) (by decide)⟩
  | 1 => exact ⟨fun q => absurd (show (1 : Nat) = 0 from q) (by decide), fun _ => ⟨_, rfl⟩, fun q => absurd (show (1 : Nat) = 2 from q) (by decide)⟩
  | 2 => exact ⟨fun q => absurd (show (2 : Nat) = 0 from q) (by decide), fun q => absurd (show (2 : Nat) = 1 from q) (by decide), fun _ => Or.inr ⟨_, rfl⟩⟩
  | 3 => exact ⟨fun q => absurd (show (2 : Nat) = 0 from q) (by decide), fun q => absurd (show (2 : Nat) = 1 from q) (by decide), fun _ => Or.inl rfl⟩
  | n + 4 => exact ⟨fun _ => ⟨_, rfl⟩, fun q => absurd (show (0 : Nat) = 1 from q) (by decide), fun q => absurd (show (0 : Nat) = 2 from q) (by decide)⟩
/-- between what two a value lies -/
def ce_iv (v : ceV) : Option (Int × Int) := if v.1 = 0 then some ((Int32.ofInt v.2).toInt, (Int32.ofInt v.2).toInt)
  else if 4 ≤ v.1 ∧ v.1 < 10 ∧ -2147483648 ≤ ce_blo v.2 ∧ ce_blo v.2 ≤ ce_bhi v.2 ∧ ce_bhi v.2 < 2147483648 then some (ce_blo v.2, ce_bhi v.2) else none
theorem ce_iv_ok (ρ : Nat → Int32) (B : Nat) {v : ceV} {r : Int × Int} (h : ce_iv v = some r) : ∃ a : Int32, ce_c ρ B v = .int a ∧ r.1 ≤ a.toInt ∧ a.toInt ≤ r.2 := by
  obtain ⟨t, x⟩ := v
  unfold ce_iv at h
  dsimp only at h
  split at h
  · rename_i q
    subst q
    cases h
    exact ⟨_, rfl, Int.le_refl _, Int.le_refl _⟩
  · split at h
    · rename_i q
      obtain ⟨q1, q2, q3, q4, q5⟩ := q
      cases h
      refine ⟨_, ce_cU ρ B q1 x, ?_⟩
      unfold ce_un
      rw [if_pos q2]
      exact ce_clp_bd _ q3 q4 q5
    · cases h
def ce_dci (cd : ClassFile.Cond) (i j : Int × Int) : Option Bool := match cd with
  | .eq => if i.2 < j.1 ∨ j.2 < i.1 then some false else if i.1 = i.2 ∧ j.1 = j.2 ∧ i.1 = j.1 then some true else none
  | .ne => if i.2 < j.1 ∨ j.2 < i.1 then some true else if i.1 = i.2 ∧ j.1 = j.2 ∧ i.1 = j.1 then some false else none
  | .lt => if i.2 < j.1 then some true else if j.2 ≤ i.1 then some false else none
  | .ge => if j.2 ≤ i.1 then some true else if i.2 < j.1 then some false else none
  | .gt => if j.2 < i.1 then some true else if i.2 ≤ j.1 then some false else none
  | .le => if i.2 ≤ j.1 then some true else if j.2 < i.1 then some false else none
theorem ce_dci_ok {cd : ClassFile.Cond} {i j : Int × Int} {b : Bool} (h : ce_dci cd i j = some b) {x y : Int} (h1 : i.1 ≤ x) (h2 : x ≤ i.2) (h3 : j.1 ≤ y) (h4 : y ≤ j.2) : nh_cr cd x y = b := by
  cases cd <;> (unfold ce_dci at h; dsimp only at h; unfold nh_cr; split at h)
  all_goals first
    | (cases h; simp only [decide_eq_true_eq, decide_eq_false_iff_not]; omega)
    | (split at h
       · cases h; simp only [decide_eq_true_eq, decide_eq_false_iff_not]; omega
       · cases h)
/-- how a comparison comes out -/
def ce_dc (cd : ClassFile.Cond) (x y : ceV) : Option Bool := if x.1 = 0 ∧ y.1 = 0 then some (nh_cr cd (Int32.ofInt x.2).toInt (Int32.ofInt y.2).toInt) else (match ce_iv x, ce_iv y with
  | some i, some j => ce_dci cd i j
  | _, _ => none)
theorem ce_dc_ok (ρ : Nat → Int32) (B : Nat) {cd : ClassFile.Cond} {x y : ceV} {b : Bool} (h : ce_dc cd x y = some b) : ∃ a a' : Int32, ce_c ρ B x = .int a ∧ ce_c ρ B y = .int a' ∧ nh_cr cd a.toInt a'.toInt = b := by
  unfold ce_dc at h
  split at h
  · rename_i q
    obtain ⟨xt, x⟩ := x
    obtain ⟨yt, y⟩ := y
    dsimp only at q
    obtain ⟨rfl, rfl⟩ := q
    cases h
    exact ⟨_, _, rfl, rfl, rfl⟩
  · split at h
    · rename_i i j hi hj
      obtain ⟨a, e1, e2, e3⟩ := ce_iv_ok ρ B hi
      obtain ⟨a', f1, f2, f3⟩ := ce_iv_ok ρ B hj
      exact ⟨a, a', e1, f1, ce_dci_ok h e2 e3 f2 f3⟩
    · cases h
theorem ce_cat (ρ : Nat → Int32) (B : Nat) (v : ceV) : (ce_c ρ B v).category = (if ce_ty v = 1 then 2 else 1) := by
  have h := ce_ty_ok ρ B (v := v)
  have h3 : ce_ty v = 0 ∨ ce_ty v = 1 ∨ ce_ty v = 2 := by
    unfold ce_ty
    split <;> simp
  rcases h3 with q | q | q
  · obtain ⟨a, e⟩ := h.1 q
    rw [e, q]; rfl
  · obtain ⟨a, e⟩ := h.2.1 q
    rw [e, q]; rfl
  · rcases h.2.2 q with e | ⟨a, e⟩ <;> rw [e, q] <;> rfl
def ce_find (lo : List (Nat × ceV)) (n : Nat) : Option ceV := match lo with
  | [] => none
  | q :: r => match Nat.beq q.1 n with
    | true => some q.2
    | false => ce_find r n
theorem ce_find_ok {lo : List (Nat × ceV)} {n : Nat} {v : ceV} (h : ce_find lo n = some v) : (n, v) ∈ lo := by
  induction lo with
  | nil => cases h
  | cons q r ih =>
    unfold ce_find at h
    split at h
    · rename_i e1
      cases h
      have : q.1 = n := Nat.eq_of_beq_eq_true e1
      rw [← this]
      exact List.mem_cons_self
    · exact List.mem_cons_of_mem _ (ih h)
def ce_keep (n t : Nat) (q : Nat × ceV) : Bool := match Nat.beq q.1 n with
  | true => false
  | false => match Nat.beq (q.1 + 1) n with
    | true => !(Nat.beq (ce_ty q.2) 1)
    | false => match Nat.beq t 1 with
      | true => !(Nat.beq q.1 (n + 1))
      | false => true
theorem ce_nb {a b : Nat} (h : (!(Nat.beq a b)) = true) : a ≠ b := fun e => by
  subst e
  rw [Nat.beq_refl] at h
  cases h
theorem ce_nf {a b : Nat} (h : Nat.beq a b = false) : a ≠ b := fun e => by
  subst e
  rw [Nat.beq_refl] at h
  cases h
theorem ce_keep_ok {n t : Nat} {q : Nat × ceV} (h : ce_keep n t q = true) : (!(q.1 == n) && (!(t == 1 && q.1 == n + 1) && !(q.1 + 1 == n && ce_ty q.2 == 1))) = true := by
  unfold ce_keep at h
  split at h
  · cases h
  · rename_i e1
    have e1 := ce_nf e1
    split at h
    · rename_i e2
      have e2 := Nat.eq_of_beq_eq_true e2
      have e3 := ce_nb h
      have e4 : q.1 ≠ n + 1 := by omega
      simp [e1, e3, e4]
    · rename_i e2
      have e2 := ce_nf e2
      split at h
      · have e3 := ce_nb h
        simp [e1, e2, e3]
      · rename_i e3
        have e3 := ce_nf e3
        simp [e1, e2, e3]
def ce_put (lo : List (Nat × ceV)) (n t : Nat) (v : ceV) : List (Nat × ceV) := (n, v) :: lo.filter (ce_keep n t)
theorem ce_put_ok {D : nhD} {ρ : Nat → Int32} {B : Nat} {H0 : Heap} {nL n t : Nat} {lo : List (Nat × ceV)} {hp : ceHp} {H : Heap} {locs : List Loc} {ls ls' : Array Slot} {v : ceV} (h : ceRel D ρ B H0 nL lo hp H locs ls)
    (hl : lv_has ls' nL ((n, ce_c ρ B v) :: (lo.map (fun q => (q.1, ce_c ρ B q.2))).filter (fun q => !(q.1 == n) && (!(t == 1 && q.1 == n + 1) && !(q.1 + 1 == n && q.2.category == 2))))) : ceRel D ρ B H0 nL (ce_put lo n t v) hp H locs ls' := by
  refine ⟨hl.1, hl.2.1, fun q hq => ?_, h.2.2.2⟩
  unfold ce_put at hq
  rcases List.mem_cons.mp hq with rfl | hq
  · exact hl.2.2 (n, ce_c ρ B v) List.mem_cons_self
  · obtain ⟨h1, h2⟩ := List.mem_filter.mp hq
    have h2 := ce_keep_ok h2
    refine hl.2.2 (q.1, ce_c ρ B q.2) (List.mem_cons_of_mem _ (List.mem_filter.mpr ⟨List.mem_map.mpr ⟨q, h1, rfl⟩, ?_⟩))
    dsimp only
    rw [ce_cat]
    by_cases e : ce_ty q.2 = 1
    · simp only [e] at h2 ⊢; exact h2
    · simp only [if_neg e]
      have e2 : (ce_ty q.2 == 1) = false := by simpa using e
      rw [e2] at h2
      simpa using h2
def ce_mov (nL pc : Nat) (i : Instr) (len : Nat) (lo : List (Nat × ceV)) (st : List ceV) (hp : ceHp) : Option ceS := match nh_ldI i len with
  | some q => match ce_find lo q.1 with
    | some v => if ce_ty v = q.2 then some (pc + len, lo, v :: st, hp) else none
    | none => none
  | none => match nh_stI i len with
    | some q => match st with
      | v :: r => if ce_ty v = q.2 ∧ q.1 + nh_w q.2 < nL then some (pc + len, ce_put lo q.1 q.2 v, r, hp) else none
      | [] => none
    | none => if len = 1 then (match i with
      | .dup => match st with
        | v :: r => if ce_ty v = 1 then none else some (pc + 1, lo, v :: v :: r, hp)
        | _ => none
      | .pop => match st with
        | v :: r => if ce_ty v = 1 then none else some (pc + 1, lo, r, hp)
        | _ => none
      | .dup2 => match st with
        | v :: w :: r => if ce_ty v = 1 ∨ ce_ty w = 1 then none else some (pc + 1, lo, v :: w :: v :: w :: r, hp)
        | _ => none
      | _ => none) else none
def ce_inc (nL pc : Nat) (i : Instr) (len : Nat) (lo : List (Nat × ceV)) (st : List ceV) (hp : ceHp) : Option ceS := match i with
  | .iinc n k => match ce_find lo n with
    | some (0, x) => if len = 3 ∧ n < nL then some (pc + 3, ce_put lo n 0 (0, (Int32.ofInt x + Int32.ofInt k).toInt), st, hp) else none
    | some (t, x) => if len = 3 ∧ n < nL ∧ k = 1 ∧ 4 ≤ t ∧ t < 10 then some (pc + 3, ce_put lo n 0 (t + 30, x), st, hp) else none
    | _ => none
  | _ => none
/-- a condition on known ints -/
theorem ce_look {d x : Int} {v : Int × Int} (h1 : v.1 ≤ x) (h2 : x ≤ v.2) : ∀ {ps : List (Int × Int)}, ps.all (fun q => decide (q.1 < v.1 ∨ v.2 < q.1)) = true → Op.lookupswitch.offset ps d x = d
  | [], _ => rfl
  | q :: r, h => by
    rw [List.all_cons, Bool.and_eq_true] at h
    have h3 := of_decide_eq_true h.1
    rw [Op.lookupswitch.offset_cons, if_neg (by omega)]
    exact ce_look h1 h2 h.2
def ce_br (pc : Nat) (i : Instr) (len : Nat) (lo : List (Nat × ceV)) (st : List ceV) (hp : ceHp) : Option ceS := match i with
  | .if_icmp cd off => match st with
    | y :: x :: r => match nh_tg pc off, ce_dc cd x y with
      | some t, some b => if len = 3 then some (if b = true then t else pc + 3, lo, r, hp) else none
      | _, _ => none
    | _ => none
  | .ifCond cd off => match st with
    | x :: r => match nh_tg pc off, ce_dc cd x (0, 0) with
      | some t, some b => if len = 3 then some (if b = true then t else pc + 3, lo, r, hp) else none
      | _, _ => none
    | _ => none
  | .goto off => match nh_tg pc off with
    | some t => if len = 3 then some (t, lo, st, hp) else none
    | none => none
  | .ifnull off => match st with
    | (2, _) :: r => if len = 3 then some (pc + 3, lo, r, hp) else none
    | (3, _) :: r => match nh_tg pc off with
      | some t => if len = 3 then some (t, lo, r, hp) else none
      | none => none
    | _ => none
  | .ifnonnull off => match st with
    | (2, _) :: r => match nh_tg pc off with
      | some t => if len = 3 then some (t, lo, r, hp) else none
      | none => none
    | (3, _) :: r => if len = 3 then some (pc + 3, lo, r, hp) else none
    | _ => none
  | .tableswitch d lw hi offs => match st with
    | (0, x) :: r => if (Int32.ofInt x).toInt < lw ∨ hi < (Int32.ofInt x).toInt then (match nh_tg pc d with
        | some t => some (t, lo, r, hp)
        | none => none) else (match offs[((Int32.ofInt x).toInt - lw).toNat]? with
        | some o => match nh_tg pc o with
          | some t => some (t, lo, r, hp)
          | none => none
        | none => none)
    | x :: r => match ce_iv x, nh_tg pc d with
      | some v, some t => if v.2 < lw ∨ hi < v.1 then some (t, lo, r, hp) else none
      | _, _ => none
    | _ => none
  | .lookupswitch d ps => match st with
    | (0, x) :: r => match nh_tg pc (Op.lookupswitch.offset ps.toList d (Int32.ofInt x).toInt) with
      | some t => if (ps.toList.zip (ps.toList.drop 1)).all (fun (a, next) => a.1 < next.1) = true then some (t, lo, r, hp) else none
      | none => none
    | x :: r => match ce_iv x, nh_tg pc d with
      | some v, some t => if (ps.toList.zip (ps.toList.drop 1)).all (fun (a, next) => a.1 < next.1) = true ∧ ps.toList.all (fun q => decide (q.1 < v.1 ∨ v.2 < q.1)) = true then some (t, lo, r, hp) else none
      | _, _ => none
    | _ => none
  | _ => none
section CE2
variable {p : Program} {l : Launch} {e : Env} {R : Room} {s : State} {m : MethodId} {args : Array Value} {below : List Frame} {meth : Method} {c : Code} {Q : State → Prop} {cc : ByteArray} {pc : Nat} {D : nhD} {ρ : Nat → Int32} {B : Nat} {H0 : Heap} {nL cn cz : Nat} {lo : List (Nat × ceV)} {st : List ceV} {hp : ceHp}
theorem ce_mov_ok (hx : p.tables.exec = Jvm.exec) (hb : c.code = cc) {i : Instr} {len : Nat} (hd : decode cc pc = .ok (i, len)) {S' : ceS} (h : ce_mov nL pc i len lo st hp = some S')
    (k : ceGo p l e R s m args below meth c Q D ρ B H0 nL cn cz S') : ceGo p l e R s m args below meth c Q D ρ B H0 nL cn cz (pc, lo, st, hp) := by
  intro H locs ls hR
  unfold ce_mov at h
  split at h
  · rename_i q hq
    split at h
    · rename_i v hv
      split at h
      · rename_i ht
        cases h
        have hc := ce_ty_ok ρ B (v := v)
        rw [ht] at hc
        exact nh_ldW hx hb hq hd (hR.2.2.1 _ (ce_find_ok hv)) hc.1 hc.2.1 hc.2.2 (k H locs ls hR)
      · cases h
    · cases h
  · split at h
    · rename_i q hq
      split at h
      · rename_i v r
        split at h
        · rename_i ht
          cases h
          have hc := ce_ty_ok ρ B (v := v)
          rw [ht.1] at hc
          exact nh_stW hx hb hq hd hR.has ht.2 hc.1 hc.2.1 hc.2.2 (fun ls' hl' => k H locs ls' (ce_put_ok hR hl'))
        · cases h
      · cases h
    · split at h
      · rename_i hl
        subst hl
        split at h
        · split at h
          · rename_i v r
            split at h
            · cases h
            · rename_i ht
              cases h
              exact lv_dup hx hb hd (by rw [ce_cat, if_neg ht]) (k H locs ls hR)
          · cases h
        · split at h
          · rename_i v r
            split at h
            · cases h
            · rename_i ht
              cases h
              exact lv_pop hx hb hd (by rw [ce_cat, if_neg ht]) (k H locs ls hR)
          · cases h
        · split at h
          · rename_i v w r
            split at h
            · cases h
            · rename_i ht
              cases h
              exact lv_dup2_11 hx hb hd (by rw [ce_cat, if_neg (fun q => ht (Or.inl q))]) (by rw [ce_cat, if_neg (fun q => ht (Or.inr q))]) (k H locs ls hR)
          · cases h
        · cases h
      · cases h
theorem ce_inc_ok (hx : p.tables.exec = Jvm.exec) (hb : c.code = cc) {i : Instr} {len : Nat} (hd : decode cc pc = .ok (i, len)) {S' : ceS} (h : ce_inc nL pc i len lo st hp = some S')
    (k : ceGo p l e R s m args below meth c Q D ρ B H0 nL cn cz S') : ceGo p l e R s m args below meth c Q D ρ B H0 nL cn cz (pc, lo, st, hp) := by
  intro H locs ls hR
  unfold ce_inc at h
  split at h
  · rename_i n kk
    split at h
    · rename_i x hv
      split at h
      · rename_i ht
        cases h
        obtain ⟨rfl, hn⟩ := ht
        have hlv := hR.has
        have hmem : (n, Value.int (Int32.ofInt x)) ∈ lo.map (fun q => (q.1, ce_c ρ B q.2)) := List.mem_map.mpr ⟨(n, (0, x)), ce_find_ok hv, rfl⟩
        obtain ⟨kx, hkx⟩ := List.getElem?_of_mem hmem
        refine lv_iinc hx hb hd hlv hkx rfl hn rfl (fun ls' hl' => k H locs ls' (ce_put_ok hR ?_))
        rw [ce_i]
        simpa using hl'
      · cases h
    · rename_i t x _ hv
      split at h
      · rename_i ht
        cases h
        obtain ⟨rfl, hn, rfl, t1, t2⟩ := ht
        have hlv := hR.has
        have hmem : (n, Value.int (ce_un ρ t x)) ∈ lo.map (fun q => (q.1, ce_c ρ B q.2)) := List.mem_map.mpr ⟨(n, (t, x)), ce_find_ok hv, by dsimp only; rw [ce_cU ρ B t1]⟩
        obtain ⟨kx, hkx⟩ := List.getElem?_of_mem hmem
        refine lv_iinc hx hb hd hlv hkx rfl hn rfl (fun ls' hl' => k H locs ls' (ce_put_ok hR ?_))
        rw [ce_cU ρ B (by omega), ce_inc1 t1 t2]
        simpa using hl'
      · cases h
    · cases h
  · cases h
theorem ce_br_ok (hx : p.tables.exec = Jvm.exec) (hb : c.code = cc) {i : Instr} {len : Nat} (hd : decode cc pc = .ok (i, len)) {S' : ceS} (h : ce_br pc i len lo st hp = some S')
    (k : ceGo p l e R s m args below meth c Q D ρ B H0 nL cn cz S') : ceGo p l e R s m args below meth c Q D ρ B H0 nL cn cz (pc, lo, st, hp) := by
  intro H locs ls hR
  unfold ce_br at h
  split at h
  · split at h
    · split at h
      · rename_i t b ht hdc
        split at h
        · rename_i hl
          cases h; subst hl
          have k1 := k H locs ls hR
          obtain ⟨a, a', e1, e2, e3⟩ := ce_dc_ok ρ B hdc
          show W p l e R s m args below meth c H locs cn cz Q (F0 m pc ls (ce_c ρ B _ :: ce_c ρ B _ :: _))
          rw [e1, e2]
          refine nh_icW hx hb hd (nh_tg_ok ht) (fun hc => ?_) (fun hc => ?_)
          · dsimp only at k1
            rw [if_pos (e3.symm.trans hc)] at k1
            exact k1
          · dsimp only at k1
            rw [if_neg (by rw [e3.symm.trans hc]; decide)] at k1
            exact k1
        · cases h
      · cases h
    · cases h
  · split at h
    · split at h
      · rename_i t b ht hdc
        split at h
        · rename_i hl
          cases h; subst hl
          have k1 := k H locs ls hR
          obtain ⟨a, a', e1, e2, e3⟩ := ce_dc_ok ρ B hdc
          show W p l e R s m args below meth c H locs cn cz Q (F0 m pc ls (ce_c ρ B _ :: _))
          rw [e1]
          refine nh_ifW hx hb hd (nh_tg_ok ht) (fun hc => ?_) (fun hc => ?_)
          · dsimp only at k1
            rw [if_pos (e3.symm.trans (by cases e2; exact hc))] at k1
            exact k1
          · dsimp only at k1
            rw [if_neg (by rw [e3.symm.trans (by cases e2; exact hc)]; decide)] at k1
            exact k1
        · cases h
      · cases h
    · cases h
  · split at h
    · rename_i t ht
      split at h
      · rename_i hl
        cases h; subst hl
        exact lv_goto hx hb hd (nh_tg_ok ht) (k H locs ls hR)
      · cases h
    · cases h
  · split at h
    · split at h
      · rename_i hl
        cases h; subst hl
        exact lv_ifnull hx hb hd (k H locs ls hR)
      · cases h
    · split at h
      · rename_i t ht
        split at h
        · rename_i hl
          cases h; subst hl
          exact lv_ifnullN hx hb hd (nh_tg_ok ht) (k H locs ls hR)
        · cases h
      · cases h
    · cases h
  · split at h
    · split at h
      · rename_i t ht
        split at h
        · rename_i hl
          cases h; subst hl
          exact lv_ifnonnull hx hb hd (nh_tg_ok ht) (k H locs ls hR)
        · cases h
      · cases h
    · split at h
      · rename_i hl
        cases h; subst hl
        exact lv_ifnonnullN hx hb hd (k H locs ls hR)
      · cases h
    · cases h
  · rename_i d lw hi offs
    split at h
    · rename_i x r
      split at h
      · rename_i hc
        split at h
        · rename_i t ht
          cases h
          exact lv_tableOut hx hb hd hc (nh_tg_ok ht) (k H locs ls hR)
        · cases h
      · rename_i hc
        split at h
        · rename_i o ho
          split at h
          · rename_i t ht
            cases h
            exact lv_tableIn hx hb hd (fun q => hc (Or.inl q)) (fun q => hc (Or.inr q)) ho (nh_tg_ok ht) (k H locs ls hR)
          · cases h
        · cases h
    · rename_i x r _
      split at h
      · rename_i v t hv ht
        split at h
        · rename_i hc
          cases h
          obtain ⟨a, e1, e2, e3⟩ := ce_iv_ok (ρ := ρ) (B := B) hv
          have k1 := k H locs ls hR
          show W p l e R s m args below meth c H locs cn cz Q (F0 m pc ls (ce_c ρ B _ :: _))
          rw [e1]
          exact lv_tableOut hx hb hd (by omega) (nh_tg_ok ht) k1
        · cases h
      · cases h
    · cases h
  · rename_i d ps
    split at h
    · rename_i x r
      split at h
      · rename_i t ht
        split at h
        · rename_i hc
          cases h
          exact lv_lookup hx hb hd hc rfl (nh_tg_ok ht) (k H locs ls hR)
        · cases h
      · cases h
    · rename_i x r _
      split at h
      · rename_i v t hv ht
        split at h
        · rename_i hc
          cases h
          obtain ⟨a, e1, e2, e3⟩ := ce_iv_ok (ρ := ρ) (B := B) hv
          have k1 := k H locs ls hR
          show W p l e R s m args below meth c H locs cn cz Q (F0 m pc ls (ce_c ρ B _ :: _))
          rw [e1]
          exact lv_lookup hx hb hd hc.1 (ce_look e2 e3 hc.2) (nh_tg_ok ht) k1
        · cases h
      · cases h
    · cases h
  · cases h
end CE2
