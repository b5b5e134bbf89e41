/-! fields, arrays, constants -/
def nhFx (p : Program) (c : Code) (s : State) (m : MethodId) (args : Array Value) (cc : ByteArray) (nL own : Nat) (D : nhD) : Prop :=
  p.tables.exec = Jvm.exec ∧ c.code = cc ∧ c.maxLocals = nL ∧ (∃ C, nhOw[own]? = some C ∧ s.vm.findClass C = some m.cls) ∧ (∀ w ∈ nhTb, w.before args s = true) ∧ nhK D s
theorem nhCell.kept {D : nhD} {Γ : Nat → Int} {g : Nat → Int32} {k : nhKd} {a : Nat} {H H' : Heap} (h : nhCell D Γ g k a H) (hq : H'[a]? = H[a]?) : nhCell D Γ g k a H' := by
  obtain ⟨t, ci, n, avs⟩ := k
  unfold nhCell at h ⊢
  dsimp only at h ⊢
  split at h
  · obtain ⟨V, h1, h2⟩ := h
    exact ⟨V, h1.kept hq, h2⟩
  · obtain ⟨z, h1, h2⟩ := h
    exact ⟨z, hq.trans h1, h2⟩
  · exact h.elim
theorem nhH.put {D : nhD} {kd : List nhKd} {Γ : Nat → Int} {g : Nat → Int32} {H H' : Heap} {a : Nat} {k : nhKd} (h : nhH D kd Γ g H) (hk : kd[(Γ a).toNat]? = some k) (hc : nhCell D Γ g k a H') (ho : ∀ q : Nat, q ≠ a → H'[q]? = H[q]?) : nhH D kd Γ g H' := by
  intro b hb
  by_cases e : b = a
  · subst e
    exact ⟨k, hk, hc⟩
  · obtain ⟨k', h1, h2⟩ := h b hb
    exact ⟨k', h1, h2.kept (ho b e)⟩
theorem nhFr.put {Γ : Nat → Int} {H0 H H' : Heap} {locs : List Loc} {a i : Nat} (h : nhFr Γ false H0 H locs) (ha : 0 ≤ Γ a) (z : H'.size = H.size) (ho : ∀ q : Nat, q ≠ a → H'[q]? = H[q]?) : nhFr Γ false H0 H' (locs ++ [⟨a, i⟩]) := by
  obtain ⟨h1, h2, h3, -⟩ := h
  refine ⟨z.trans h1, fun q hq => ?_, fun q hq => ?_, fun q => by cases q⟩
  · rw [ho q (fun e => by subst e; omega)]
    exact h2 q hq
  · rcases List.mem_append.mp hq with h | h
    · exact h3 q h
    · rw [List.mem_singleton] at h
      subst h
      exact ha
/-- the kind of what a reference shows -/
def nh_kd (kd : List nhKd) (v : nhV) : Option nhKd := if v.1 = 2 ∧ 0 ≤ v.2.1 then kd[v.2.1.toNat]? else none
theorem nh_kd_ok {D : nhD} {kd : List nhKd} {Γ : Nat → Int} {g : Nat → Int32} {H : Heap} {v : nhV} {x : Value} {k : nhKd} (h : nh_kd kd v = some k) (hv : nhOk Γ g v x) (hH : nhH D kd Γ g H) : ∃ a : Nat, x = .ref a ∧ Γ a = v.2.1 ∧ 0 ≤ Γ a ∧ kd[(Γ a).toNat]? = some k ∧ nhCell D Γ g k a H := by
  obtain ⟨t, lo, hi⟩ := v
  unfold nh_kd at h
  split at h
  · rename_i q
    obtain ⟨q1, q2⟩ := q
    dsimp only at q1 q2
    subst q1
    obtain ⟨a, rfl, ha⟩ := hv
    dsimp only at ha
    obtain ⟨k', h1, h2⟩ := hH a (by omega)
    have e : k' = k := by
      rw [ha] at h1
      exact Option.some.inj (h1.symm.trans h)
    subst e
    exact ⟨a, rfl, ha, by omega, h1, h2⟩
  · cases h
def nh_mf (me : List nhMm) (ci k o : Nat) : Option Nat := match me with
  | [] => none
  | q :: r => if q.1 == ci && q.2.1 == k && q.2.2.1 == o then some q.2.2.2 else nh_mf r ci k o
theorem nh_mf_ok {me : List nhMm} {ci k o x : Nat} (h : nh_mf me ci k o = some x) : (ci, k, o, x) ∈ me := by
  induction me with
  | nil => cases h
  | cons q r ih =>
    unfold nh_mf at h
    split at h
    · rename_i e
      cases h
      simp only [Bool.and_eq_true, beq_iff_eq] at e
      obtain ⟨⟨e1, e2⟩, e3⟩ := e
      subst e1 e2 e3
      exact List.mem_cons_self
    · exact List.mem_cons_of_mem _ (ih h)
def nh_fk (own idx : Nat) : Option (Nat × Nat × Nat × Nat) := (nhFl.getD own []).find? (fun q => q.1 == idx)
theorem nh_fk_ok {own idx : Nat} {q : Nat × Nat × Nat × Nat} (h : nh_fk own idx = some q) : q.1 = idx ∧ ∃ C r, nhOw[own]? = some C ∧ nhCl[q.2.1]? = some r ∧ q.2.2.1 < r.2.2 ∧ Cond.fieldLink C idx (r.2.1 q.2.2.1).1 (r.2.1 q.2.2.1).2.1 (r.2.1 q.2.2.1).2.2.1 ∈ nhTb := by
  have h1 : q.1 = idx := by simpa using List.find?_some h
  have h2 := nh_rows nhFl_all (List.mem_of_find?_eq_some h)
  refine ⟨h1, ?_⟩
  unfold nh_flB at h2
  split at h2
  · rename_i C r hC hr
    rw [Bool.and_eq_true] at h2
    refine ⟨C, r, hC, hr, of_decide_eq_true h2.1, ?_⟩
    rw [← h1]
    exact nh_wd_ok h2.2
  · cases h2
section NH12
variable {p : Program} {l : Launch} {e : Env} {R : Room} {s : State} {m : MethodId} {args : Array Value} {below : List Frame} {meth : Method} {c : Code} {Q : State → Prop}
variable {cc : ByteArray} {E : nhE} {nL : Nat} {pu : Bool} {pc own : Nat} {S : nhS} {ρ0 : List Value}
variable {H : Heap} {locs : List Loc} {ls : Array Slot} {rest : List Value} {cells slots : Nat} {D : nhD}
theorem nh_getW (hx : p.tables.exec = Jvm.exec) (hb : c.code = cc) (hts : ∀ w ∈ nhTb, w.before args s = true) (hK : nhK D s) {C : String} (hown : s.vm.findClass C = some m.cls) {ci k idx a : Nat} {r : vw_C} (hc : nhCl[ci]? = some r) (hk : k < r.2.2) (hl : Cond.fieldLink C idx (r.2.1 k).1 (r.2.1 k).2.1 (r.2.1 k).2.2.1 ∈ nhTb) {V : Nat → Value} (hO : t_OB a (D.1 ci) r.2.2 (D.2.1 ci) H V) (hd : decode cc pc = .ok (.getfield idx, 3))
    (kk : W p l e R s m args below meth c H locs cells slots Q (F0 m (pc + 3) ls (V k :: rest))) : W p l e R s m args below meth c H locs cells slots Q (F0 m pc ls (.ref a :: rest)) := by
  obtain ⟨C', T, N⟩ := r
  obtain ⟨cell, q1, q2, q3, q4⟩ := hO
  obtain ⟨hS, hfc, kC, hkC, hkind⟩ := hK.1 ci _ hc
  obtain ⟨cf, kf, fi, f, hi, hsl⟩ := hS k hk
  refine W.getf hx hb hown (hts _ hl) hi (u_facts hfc hkC (u_lays hts (nhCl_in hc).1 hk) hi).1 q1 (by rw [q3]; exact fun h => by cases h) (v := V k) ?_ rfl rfl hd kk
  rw [hsl]
  exact q4 k hk
theorem nh_putW (hx : p.tables.exec = Jvm.exec) (hb : c.code = cc) (hts : ∀ w ∈ nhTb, w.before args s = true) (hK : nhK D s) {C : String} (hown : s.vm.findClass C = some m.cls) {ci k idx a : Nat} {r : vw_C} (hc : nhCl[ci]? = some r) (hk : k < r.2.2) (hl : Cond.fieldLink C idx (r.2.1 k).1 (r.2.1 k).2.1 (r.2.1 k).2.2.1 ∈ nhTb) (hfin : (r.2.1 k).2.2.2 = false) {V : Nat → Value} (hO : t_OB a (D.1 ci) r.2.2 (D.2.1 ci) H V) {v : Value} (hn : narrow (nhFt ci k) v = v) (hfit : fits (nhFt ci k) v = true) (hd : decode cc pc = .ok (.putfield idx, 3))
    (kk : ∀ (H' : Heap) (cell : Cell), H[a]? = some cell → H'[a]? = some (cell.setSlot (D.2.1 ci k) v) → (∀ j, j < r.2.2 → j ≠ k → D.2.1 ci j ≠ D.2.1 ci k) → t_OB a (D.1 ci) r.2.2 (D.2.1 ci) H' (updV V k v) → H'.size = H.size → (∀ q : Nat, q ≠ a → H'[q]? = H[q]?) → W p l e R s m args below meth c H' (locs ++ [⟨a, D.2.1 ci k⟩]) cells slots Q (F0 m (pc + 3) ls rest)) : W p l e R s m args below meth c H locs cells slots Q (F0 m pc ls (v :: .ref a :: rest)) := by
  obtain ⟨C', T, N⟩ := r
  obtain ⟨hin, hty, hnm⟩ := nhCl_in hc
  have hKv : va_K (D.1, D.2.1) nhCl [] s := ⟨hK.1, fun k q h => by simp at h⟩
  have hap := va_apart (own := C) hts hin (nhFt ci) hty hnm hKv hc
  obtain ⟨cell, q1, q2, q3, q4⟩ := hO
  obtain ⟨hS, hfc, kC, hkC, hkind⟩ := hK.1 ci _ hc
  obtain ⟨cf, kf, fi, f, hi, hsl⟩ := hS k hk
  have hlay := hts _ (hin _ (u_in_lay hk))
  unfold u_lay at hlay
  rw [if_neg (by rw [hfin]; decide)] at hlay
  have hst := (u_facts hfc hkC (u_lays hts hin hk) hi).1
  have h6 := u_store hfc hkC hkind hlay hi (hty k hk) hn hfit
  refine W.putK hx hb (f := f) ⟨hown, hts _ hl, ⟨_, _, _, hi⟩, hst⟩ (by rw [q2]; exact h6) q1 q3 (by rw [hsl]; exact k2_hasslot (q4 k hk)) rfl rfl hd fun H' e1 e2 e3 => ?_
  rw [hsl] at e1 ⊢
  exact kk H' cell q1 e1 (fun j hj hne => hap j k hj hk hne) ⟨_, e1, q2, q3, t_set q4 hap hk v⟩ e2 e3
/-- getfield -/
def nh_sGet (kd : List nhKd) (own : Nat) (S : nhS) (i : Instr) (len : Nat) : Option nhS := match i with
  | .getfield idx => match S.2.2.1 with
    | o :: rest => match S.1[o]?, nh_fk own idx with
      | some v, some q => match nh_kd kd v, nhCl[q.2.1]? with
        | some k, some r => if k.1 = 0 ∧ k.2.1 = q.2.1 ∧ k.2.2.1 = r.2.2 ∧ len = 3 then (match nh_mf S.2.2.2.1 q.2.1 q.2.2.1 o with
          | some x => some (S.1, S.2.1, x :: rest, S.2.2.2)
          | none => some (S.1 ++ [k.2.2.2.getD q.2.2.1 (8, 0, 0)], S.2.1, S.1.length :: rest, (q.2.1, q.2.2.1, o, S.1.length) :: S.2.2.2.1, S.2.2.2.2)) else none
        | _, _ => none
      | _, _ => none
    | _ => none
  | _ => none
theorem nh_sGet_ok (hF : nhFx p c s m args cc nL own E.1) {i : Instr} {len : Nat} (hd : decode cc pc = .ok (i, len)) {S' : nhS} (h : nh_sGet E.2.1 own S i len = some S')
    (k : nhGo p l e R s m args below meth c Q E nL pu (pc + len) S' ρ0) : nhGo p l e R s m args below meth c Q E nL pu pc S ρ0 := by
  intro ρ H locs ls st hρ hR
  obtain ⟨hx, hb, hml, ⟨C, hC, hown⟩, hts, hK⟩ := hF
  have hs := hR.2.2.1
  unfold nh_sGet at h
  split at h
  · rename_i idx
    split at h
    · rename_i o rest hst
      rw [hst] at hs
      obtain ⟨vx, st2, rfl, ho, hs2⟩ := hs.inv1
      split at h
      · rename_i v q hv hq
        split at h
        · rename_i kk r hkk hr
          split at h
          · rename_i hc
            obtain ⟨c1, c2, c3, rfl⟩ := hc
            obtain ⟨x', g1, g2⟩ := hR.1.2 o v hv
            rw [ho] at g1; cases g1
            obtain ⟨a, rfl, ha1, ha2, ha3, ha4⟩ := nh_kd_ok hkk g2 hR.2.2.2.2.2.2.1
            obtain ⟨f1, C', r', f2, f3, f4, f5⟩ := nh_fk_ok hq
            rw [hC] at f2; cases f2
            rw [hr] at f3; cases f3
            obtain ⟨t, ci, N, avs⟩ := kk
            dsimp only at c1 c2 c3
            subst c1 c2 c3
            obtain ⟨V, hV1, hV2⟩ := ha4
            dsimp only at hV1 hV2
            split at h
            · rename_i x hm
              cases h
              obtain ⟨a', y, cell, m1, m2, m3, m4⟩ := hR.2.2.2.1 _ (nh_mf_ok hm)
              dsimp only at m1 m2 m4
              rw [ho] at m1; cases m1
              have eV : V q.2.2.1 = y := by
                obtain ⟨cell', n1, n2, n3, n4⟩ := hV1
                rw [m3] at n1; cases n1
                exact Option.some.inj ((n4 _ f4).symm.trans m4)
              refine nh_getW hx hb hts hK hown hr f4 f5 hV1 hd (k ρ H locs ls _ hρ ?_)
              rw [eV]
              exact nh_stack_ok (is := x :: rest) hR ⟨m2, hs2⟩
            · cases h
              refine nh_getW hx hb hts hK hown hr f4 f5 hV1 hd (k (ρ ++ [V q.2.2.1]) H locs ls _ (hρ.tr (nhX.push ρ _)) ?_)
              have h1 := nh_push_ok (v := avs.getD q.2.2.1 (8, 0, 0)) hR hs2 (hV2 _ f4)
              obtain ⟨b1, b2, b3, b4, b5⟩ := h1
              refine ⟨b1, b2, b3, fun w hw => ?_, b5⟩
              rcases List.mem_cons.mp hw with rfl | hw
              · obtain ⟨cell', n1, n2, n3, n4⟩ := hV1
                exact ⟨a, V q.2.2.1, cell', nhX.push ρ _ _ _ ho, by show (ρ ++ [V q.2.2.1])[S.1.length]? = _; rw [← hR.1.1]; exact nhX.last ρ _, n1, n4 _ f4⟩
              · exact b4 w hw
          · cases h
        · cases h
      · cases h
    · cases h
  · cases h
def nh_fit (ty : FieldType) (v : nhV) : Bool := match ty with
  | .int => nh_cat v == 0
  | .long => nh_cat v == 1
  | .boolean => nh_le v (0, 0, 1)
  | .object _ => nh_cat v == 2
  | .array _ => nh_cat v == 2
  | _ => false
theorem nh_fit_ok {Γ : Nat → Int} {g : Nat → Int32} {ty : FieldType} {v : nhV} {x : Value} (h : nh_fit ty v = true) (hv : nhOk Γ g v x) : narrow ty x = x ∧ fits ty x = true := by
  have hc := nh_cat_ok hv
  unfold nh_fit at h
  split at h
  · obtain ⟨a, rfl⟩ := hc.1 (by simpa using h)
    exact ⟨rfl, rfl⟩
  · obtain ⟨a, rfl⟩ := hc.2.1 (by simpa using h)
    exact ⟨rfl, rfl⟩
  · obtain ⟨a, rfl, h1, h2⟩ := nh_le_ok h hv
    dsimp only at h1 h2
    have e : a = 0 ∨ a = 1 := by
      rcases (show a.toInt = 0 ∨ a.toInt = 1 by omega) with q | q
      · exact Or.inl (Int32.toInt_inj.mp (by rw [q]; rfl))
      · exact Or.inr (Int32.toInt_inj.mp (by rw [q]; rfl))
    rcases e with rfl | rfl
    · exact ⟨rfl, rfl⟩
    · exact ⟨rfl, rfl⟩
  · rcases hc.2.2 (by simpa using h) with rfl | ⟨a, rfl⟩
    · exact ⟨rfl, rfl⟩
    · exact ⟨rfl, rfl⟩
  · rcases hc.2.2 (by simpa using h) with rfl | ⟨a, rfl⟩
    · exact ⟨rfl, rfl⟩
    · exact ⟨rfl, rfl⟩
  · cases h
/-- which fields stay known when field k of an object of kind kk is written (a class that is none: an array) -/
def nh_kpM (vs : List nhV) (kk : Int) (ci k N : Nat) (q : nhMm) : Bool := (match vs[q.2.2.1]? with
  | some v => v.1 == 2 && v.2.1 != kk
  | none => false) || (q.1 == ci && q.2.1 != k && decide (q.2.1 < N))
theorem nh_kpM_far {Γ : Nat → Int} {g : Nat → Int32} {vs : List nhV} {ρ : List Value} {kk : Int} {o a a2 : Nat} (hA : nhAll Γ g vs ρ) (h : (match vs[o]? with
  | some v => v.1 == 2 && v.2.1 != kk
  | none => false) = true) (ho : ρ[o]? = some (.ref a2)) (ha : Γ a = kk) : a2 ≠ a := by
  split at h
  · rename_i v hv
    obtain ⟨x, h1, h2⟩ := hA.2 o v hv
    rw [ho] at h1; cases h1
    simp only [Bool.and_eq_true, beq_iff_eq, bne_iff_ne, ne_eq] at h
    obtain ⟨t, lo, hi⟩ := v
    dsimp only at h
    obtain ⟨rfl, h⟩ := h
    obtain ⟨b, e1, e2⟩ := h2
    cases e1
    intro e
    subst e
    exact h (e2.symm.trans ha)
  · cases h
/-- putfield -/
def nh_sPut (kd : List nhKd) (own : Nat) (S : nhS) (i : Instr) (len : Nat) : Option nhS := match i with
  | .putfield idx => match S.2.2.1 with
    | x :: o :: rest => match S.1[o]?, S.1[x]?, nh_fk own idx with
      | some v, some w, some q => match nh_kd kd v, nhCl[q.2.1]? with
        | some k, some r => if k.1 = 0 ∧ k.2.1 = q.2.1 ∧ k.2.2.1 = r.2.2 ∧ len = 3 ∧ (r.2.1 q.2.2.1).2.2.2 = false ∧ nh_fit (nhFt q.2.1 q.2.2.1) w = true ∧ nh_le w (k.2.2.2.getD q.2.2.1 (8, 0, 0)) = true then
            some (S.1, S.2.1, rest, (q.2.1, q.2.2.1, o, x) :: S.2.2.2.1.filter (nh_kpM S.1 v.2.1 q.2.1 q.2.2.1 r.2.2), S.2.2.2.2) else none
        | _, _ => none
      | _, _, _ => none
    | _ => none
  | _ => none
theorem nh_sPut_ok (hF : nhFx p c s m args cc nL own E.1) {i : Instr} {len : Nat} (hd : decode cc pc = .ok (i, len)) {S' : nhS} (h : nh_sPut E.2.1 own S i len = some S')
    (k : nhGo p l e R s m args below meth c Q E nL false (pc + len) S' ρ0) : nhGo p l e R s m args below meth c Q E nL false pc S ρ0 := by
  intro ρ H locs ls st hρ hR
  obtain ⟨hx, hb, hml, ⟨C, hC, hown⟩, hts, hK⟩ := hF
  have hs := hR.2.2.1
  unfold nh_sPut at h
  split at h
  · rename_i idx
    split at h
    · rename_i x o rest hst
      rw [hst] at hs
      obtain ⟨vv, st1, rfl, hx1, hs1⟩ := hs.inv1
      obtain ⟨vx, st2, rfl, ho, hs2⟩ := hs1.inv1
      split at h
      · rename_i v w q hv hw hq
        split at h
        · rename_i kk r hkk hr
          split at h
          · rename_i hc
            obtain ⟨c1, c2, c3, rfl, c5, c6, c7⟩ := hc
            cases h
            obtain ⟨x', g1, g2⟩ := hR.1.2 o v hv
            rw [ho] at g1; cases g1
            obtain ⟨x', g3, g4⟩ := hR.1.2 x w hw
            rw [hx1] at g3; cases g3
            obtain ⟨a, rfl, ha1, ha2, ha3, ha4⟩ := nh_kd_ok hkk g2 hR.2.2.2.2.2.2.1
            obtain ⟨f1, C', r', f2, f3, f4, f5⟩ := nh_fk_ok hq
            rw [hC] at f2; cases f2
            rw [hr] at f3; cases f3
            obtain ⟨t, ci, N, avs⟩ := kk
            dsimp only at c1 c2 c3 c7
            subst c1 c2 c3
            obtain ⟨V, hV1, hV2⟩ := ha4
            dsimp only at hV1 hV2
            obtain ⟨n1, n2⟩ := nh_fit_ok c6 g4
            refine nh_putW hx hb hts hK hown hr f4 f5 c5 hV1 n1 n2 hd (fun H' cell e0 e1 eap e2 e3 e4 => k ρ H' _ ls st2 hρ ?_)
            obtain ⟨b1, b2, b3, b4, b5, b6, b7, b8⟩ := hR
            refine ⟨b1, b2, hs2, fun d hd' => ?_, b5, b6, ?_, b8.put ha2 e3 e4⟩
            · rcases List.mem_cons.mp hd' with rfl | hd'
              · refine ⟨a, vv, _, ho, hx1, e1, ?_⟩
                obtain ⟨cell', z1, z2, z3, z4⟩ := e2
                rw [e1] at z1; cases z1
                have := z4 _ f4
                simpa [updV] using this
              · obtain ⟨d1, d2⟩ := List.mem_filter.mp hd'
                obtain ⟨a2, y, cell2, m1, m2, m3, m4⟩ := b4 d d1
                unfold nh_kpM at d2
                rcases Bool.or_eq_true _ _ ▸ d2 with d3 | d3
                · have hne := nh_kpM_far b1 d3 m1 ha1
                  exact ⟨a2, y, cell2, m1, m2, by rw [e4 a2 hne]; exact m3, m4⟩
                · by_cases hne : a2 = a
                  · subst hne
                    rw [e0] at m3; cases m3
                    refine ⟨a2, y, _, m1, m2, e1, ?_⟩
                    simp only [Bool.and_eq_true, beq_iff_eq, bne_iff_ne, ne_eq, decide_eq_true_eq] at d3
                    rw [d3.1.1] at m4 ⊢
                    have hsl : E.1.2.1 q.2.1 d.2.1 ≠ E.1.2.1 q.2.1 q.2.2.1 := eap _ d3.2 d3.1.2
                    simp only [Cell.setSlot]
                    rw [Array.getElem?_setIfInBounds_ne (Ne.symm hsl)]
                    exact m4
                  · exact ⟨a2, y, cell2, m1, m2, by rw [e4 a2 hne]; exact m3, m4⟩
            · refine b7.put ha3 ⟨updV V q.2.2.1 vv, e2, fun j hj => ?_⟩ e4
              dsimp only
              by_cases ej : j = q.2.2.1
              · subst ej
                simp only [updV, if_true]
                exact nh_le_ok c7 g4
              · simp only [updV, if_neg ej]
                exact hV2 j hj
          · cases h
        · cases h
      · cases h
    · cases h
  · cases h
end NH12
