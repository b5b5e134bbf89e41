/-! loads, stores, iinc, the stack's own moves -/
def nk_find (lo : List (Nat × Nat)) (n : Nat) : Option Nat := match lo with
  | [] => none
  | q :: r => match Nat.beq q.1 n with
    | true => some q.2
    | false => nk_find r n
theorem nk_find_ok {lo : List (Nat × Nat)} {n i : Nat} (h : nk_find lo n = some i) : (n, i) ∈ lo := by
  induction lo with
  | nil => cases h
  | cons q r ih =>
    unfold nk_find at h
    split at h
    · rename_i e1
      cases h
      have := Nat.eq_of_beq_eq_true e1
      rw [← this]
      exact List.mem_cons_self
    · exact List.mem_cons_of_mem _ (ih h)
def nk_sLd (S : nkS) (i : Instr) (len : Nat) : Option nkS := match nh_ldI i len with
  | some q => match nk_find S.2.2.1 q.1 with
    | some j => match nk_g S.2.1 S.1 j with
      | some v => match Nat.beq (nk_cat v) q.2 with
        | true => some (S.1, S.2.1, S.2.2.1, j :: S.2.2.2.1, S.2.2.2.2)
        | false => none
      | none => none
    | none => none
  | none => none
theorem nk_lvh {n : Nat} {ρ : Nat → Value} {lo : List (Nat × Nat)} {ls : Array Slot} {nL : Nat} (h1 : ls.size = nL) (h2 : lv_wf ls) (h3 : nkLo n ρ lo ls) : lv_has ls nL (lo.map (fun q => (q.1, ρ q.2))) := by
  refine ⟨h1, h2, fun q hq => ?_⟩
  obtain ⟨r, hr, e⟩ := List.mem_map.mp hq
  subst e
  exact (h3 r hr).2
def nk_c02 (v : nkV) : Bool := match nk_cat v with
  | 0 => true
  | 2 => true
  | _ => false
theorem nk_c02_ok {v : nkV} (h : nk_c02 v = true) : nk_cat v = 0 ∨ nk_cat v = 2 := by
  unfold nk_c02 at h
  split at h
  · rename_i e; exact Or.inl e
  · rename_i e; exact Or.inr e
  · cases h
/-- which locals stay when slot n is written (two slots: w) -/
def nk_keep (S : nkS) (n : Nat) (w : Bool) (q : Nat × Nat) : Bool := !(Nat.beq q.1 n) && (!(w && Nat.beq q.1 (n + 1)) && (!(Nat.beq (q.1 + 1) n) || (match nk_g S.2.1 S.1 q.2 with
  | some v => nk_c02 v
  | none => false)))
def nk_sSt (S : nkS) (nL : Nat) (i : Instr) (len : Nat) : Option nkS := match nh_stI i len with
  | some q => match S.2.2.2.1 with
    | j :: rest => match nk_g S.2.1 S.1 j with
      | some v => match Nat.beq (nk_cat v) q.2 && Nat.blt (q.1 + nh_w q.2) nL with
        | true => some (S.1, S.2.1, (q.1, j) :: S.2.2.1.filter (nk_keep S q.1 (Nat.beq q.2 1)), rest, S.2.2.2.2)
        | false => none
      | none => none
    | [] => none
  | none => none
theorem nk_beq {a b : Nat} : Nat.beq a b = (a == b) := Bool.eq_iff_iff.mpr (by rw [Nat.beq_eq, beq_iff_eq])
/-- the locals behind a write -/
theorem nk_lo_put {E : nkE} {S : nkS} {ρ ρ' : Nat → Value} {ls' : Array Slot} {nL n j m : Nat} {w : Bool} {x : Value} {ls : Array Slot} (hA : nkAll E.2.2 S.1 S.2.1 ρ) (hL : nkLo S.1 ρ S.2.2.1 ls) (hX : nkX S.1 ρ ρ') (hm : S.1 ≤ m) (hj : j < m) (ej : ρ' j = x)
    (h : lv_has ls' nL ((n, x) :: (S.2.2.1.map (fun q => (q.1, ρ q.2))).filter (fun q => !(q.1 == n) && (!(w && q.1 == n + 1) && !(q.1 + 1 == n && q.2.category == 2))))) : ls'.size = nL ∧ lv_wf ls' ∧ nkLo m ρ' ((n, j) :: S.2.2.1.filter (nk_keep S n w)) ls' := by
  refine ⟨h.1, h.2.1, fun q hq => ?_⟩
  rcases List.mem_cons.mp hq with rfl | hq
  · refine ⟨hj, ?_⟩
    show ls'[n]? = some (.val (ρ' j))
    rw [ej]
    exact h.2.2 (n, x) List.mem_cons_self
  · obtain ⟨h1, h2⟩ := List.mem_filter.mp hq
    obtain ⟨h3, h4⟩ := hL q h1
    refine ⟨Nat.lt_of_lt_of_le h3 hm, ?_⟩
    rw [hX _ h3]
    refine h.2.2 (q.1, ρ q.2) (List.mem_cons_of_mem _ (List.mem_filter.mpr ⟨List.mem_map.mpr ⟨q, h1, rfl⟩, ?_⟩))
    unfold nk_keep at h2
    rw [nk_beq, nk_beq, nk_beq] at h2
    simp only [Bool.and_eq_true, Bool.or_eq_true, Bool.not_eq_true', beq_eq_false_iff_ne, ne_eq] at h2 ⊢
    refine ⟨h2.1, h2.2.1, ?_⟩
    rcases h2.2.2 with h3 | h3
    · simp [h3]
    · split at h3
      · rename_i v hv
        have := nk_cat1 (hA _ v hv) (nk_c02_ok h3)
        simp [this]
      · cases h3
/-- iinc -/
def nk_sInc (S : nkS) (nL : Nat) (i : Instr) (len : Nat) : Option nkS := match i with
  | .iinc n k => match nk_find S.2.2.1 n with
    | some j => match nk_g S.2.1 S.1 j with
      | some v => match nk_iv v with
        | some q => match Nat.beq len 3 && (Nat.blt n nL && (Nat.ble 18446744071562067968 (nk_cI k) && Nat.ble (nk_cI k) 18446744075857035263)) with
          | true => some (S.1 + 1, nk_mk (q.1 + nk_cI k) (q.2 + nk_cI k) :: S.2.1, (n, S.1) :: S.2.2.1.filter (nk_keep S n false), S.2.2.2.1, S.2.2.2.2.1, nk_ifT (nk_okA q.1 q.2 (nk_cI k) (nk_cI k)) (nk_dE S.1 j (nk_cI k) (nk_cI k)) ++ S.2.2.2.2.2.1, S.2.2.2.2.2.2)
          | false => none
        | none => none
      | none => none
    | none => none
  | _ => none
/-- the stack's own moves -/
def nk_sSk (S : nkS) (i : Instr) (len : Nat) : Option nkS := match Nat.beq len 1 with
  | false => none
  | true => match i with
    | .dup => match S.2.2.2.1 with
      | x :: rest => match nk_g S.2.1 S.1 x with
        | some v => match nk_c02 v with
          | true => some (S.1, S.2.1, S.2.2.1, x :: x :: rest, S.2.2.2.2)
          | false => none
        | none => none
      | [] => none
    | .pop => match S.2.2.2.1 with
      | x :: rest => match nk_g S.2.1 S.1 x with
        | some v => match nk_c02 v with
          | true => some (S.1, S.2.1, S.2.2.1, rest, S.2.2.2.2)
          | false => none
        | none => none
      | [] => none
    | .dup2 => match S.2.2.2.1 with
      | x :: y :: rest => match nk_g S.2.1 S.1 x, nk_g S.2.1 S.1 y with
        | some v, some w => match nk_c02 v && nk_c02 w with
          | true => some (S.1, S.2.1, S.2.2.1, x :: y :: x :: y :: rest, S.2.2.2.2)
          | false => none
        | _, _ => none
      | _ => none
    | _ => none
section NK33
variable {p : Program} {l : Launch} {e : Env} {R : Room} {s : State} {m : MethodId} {args : Array Value} {below : List Frame} {meth : Method} {c : Code} {Q : State → Prop}
variable {cc : ByteArray} {E : nkE} {nL : Nat} {Ws : nkWs} {H0 : Heap} {n0 : Nat} {ρ0 : Nat → Value} {pc : Nat} {S : nkS}
theorem nk_sLd_ok (hx : p.tables.exec = Jvm.exec) (hb : c.code = cc) {i : Instr} {len : Nat} (hd : decode cc pc = .ok (i, len)) {S' : nkS} (h : nk_sLd S i len = some S')
    (k : nkGo p l e R s m args below meth c Q E nL Ws H0 n0 ρ0 (pc + len) S') : nkGo p l e R s m args below meth c Q E nL Ws H0 n0 ρ0 pc S := by
  intro hn ρ H locs ls st hρ hR
  unfold nk_sLd at h
  split at h
  · rename_i q hi
    obtain ⟨n, t⟩ := q
    split at h
    · rename_i j hj
      split at h
      · rename_i v hv
        split at h
        · rename_i hc
          have hc := Nat.eq_of_beq_eq_true hc
          cases h
          obtain ⟨h1, h2⟩ := hR.2.1.2.2 _ (nk_find_ok hj)
          have hcat := nk_cat_ok (hR.1.1 j v hv)
          dsimp only at hc h1 h2
          rw [hc] at hcat
          exact nh_ldW hx hb hi hd h2 hcat.1 hcat.2.1 hcat.2.2 (k hn ρ H locs ls _ hρ (nk_stack_ok (is := j :: S.2.2.2.1) hR (hR.2.2.1.cons h1)))
        · cases h
      · cases h
    · cases h
  · cases h
theorem nk_sSt_ok (hx : p.tables.exec = Jvm.exec) (hb : c.code = cc) {i : Instr} {len : Nat} (hd : decode cc pc = .ok (i, len)) {S' : nkS} (h : nk_sSt S nL i len = some S')
    (k : nkGo p l e R s m args below meth c Q E nL Ws H0 n0 ρ0 (pc + len) S') : nkGo p l e R s m args below meth c Q E nL Ws H0 n0 ρ0 pc S := by
  intro hn ρ H locs ls st hρ hR
  unfold nk_sSt at h
  split at h
  · rename_i q hi
    obtain ⟨n, t⟩ := q
    split at h
    · rename_i j rest hst
      have hs := hR.2.2.1
      rw [hst] at hs
      obtain ⟨lj, xs, rfl, hs1⟩ := hs.inv1
      split at h
      · rename_i v hv
        split at h
        · rename_i hc
          rw [Bool.and_eq_true] at hc
          have hc1 := Nat.eq_of_beq_eq_true hc.1
          have hc2 := nk_blt hc.2
          cases h
          have hcat := nk_cat_ok (hR.1.1 j v hv)
          dsimp only at hc1 hc2
          rw [hc1] at hcat
          obtain ⟨h1, ⟨h2, h3, h4⟩, h5, h6⟩ := hR
          refine nh_stW hx hb hi hd (nk_lvh h2 h3 h4) hc2 hcat.1 hcat.2.1 hcat.2.2 (fun ls' hl' => k hn ρ H locs ls' xs hρ ⟨h1, ?_, hs1, h6⟩)
          exact nk_lo_put (E := E) (w := Nat.beq t 1) h1.1 h4 (nkX.rf _ _) (Nat.le_refl _) lj rfl (by rw [nk_beq]; exact hl')
        · cases h
      · cases h
    · cases h
  · cases h
theorem nk_sInc_ok (hx : p.tables.exec = Jvm.exec) (hb : c.code = cc) {i : Instr} {len : Nat} (hd : decode cc pc = .ok (i, len)) {S' : nkS} (h : nk_sInc S nL i len = some S')
    (k : nkGo p l e R s m args below meth c Q E nL Ws H0 n0 ρ0 (pc + len) S') : nkGo p l e R s m args below meth c Q E nL Ws H0 n0 ρ0 pc S := by
  intro hn ρ H locs ls st hρ hR
  unfold nk_sInc at h
  split at h
  · rename_i n kk
    split at h
    · rename_i j hj
      split at h
      · rename_i v hv
        split at h
        · rename_i q hq
          split at h
          · rename_i hl
            simp only [Bool.and_eq_true] at hl
            have l0 := Nat.eq_of_beq_eq_true hl.1
            have l1 := nk_blt hl.2.1
            have l2 := Nat.le_of_ble_eq_true hl.2.2.1
            have l3 := Nat.le_of_ble_eq_true hl.2.2.2
            have h := Option.some.inj h
            subst h l0
            have ek := nk_cI_ok l2 l3
            obtain ⟨h1, h2⟩ := hR.2.1.2.2 _ (nk_find_ok hj)
            dsimp only at h1 h2
            obtain ⟨a, ea, a1, a2⟩ := nk_iv_ok hq (hR.1.1 j v hv)
            have ra := fb_rng a
            have rk := fb_rng (Int32.ofInt kk)
            obtain ⟨⟨hA, hM, hD, hC, hH⟩, ⟨hL1, hL2, hL3⟩, hS1, hF⟩ := hR
            have hlv := nk_lvh hL1 hL2 hL3
            have hmem : (n, Value.int a) ∈ S.2.2.1.map (fun q => (q.1, ρ q.2)) := List.mem_map.mpr ⟨(n, j), nk_find_ok hj, by dsimp only; rw [ea]⟩
            obtain ⟨kx, hkx⟩ := List.getElem?_of_mem hmem
            refine lv_iinc hx hb hd hlv hkx rfl l1 rfl (fun ls' hl' => ?_)
            have hX := nkX.push S.1 ρ (.int (a + Int32.ofInt kk))
            have hle : S.1 ≤ S.1 + 1 := Nat.le_succ _
            refine k (Nat.le_succ_of_le hn) (updV ρ S.1 (.int (a + Int32.ofInt kk))) H locs ls' st (hρ.tr hn hX) ⟨⟨hA.push ?_, hM.mono hX hle, (nkDi.ifT fun hb => ?_).app (hD.mono hX hle), hC.mono hX hle, hH⟩, ?_, nkSt.mono hX hle hS1, hF⟩
            · generalize hcI : nk_cI kk = ck at *
              refine nk_mk_ok fun q1 q2 => ?_
              rw [fb_addI (by omega) (by omega)]
              omega
            · have hb := nk_okA_ok hb
              generalize hcI : nk_cI kk = ck at *
              have e1 := fb_addI (x := a) (y := Int32.ofInt kk) (by omega) (by omega)
              exact nk_dE_ok (by omega) (by omega) ((hX j h1).trans ea) (nk_upd _ _ _) (by omega) (by omega) rk.2 e1
            · exact nk_lo_put (E := E) (w := false) hA hL3 hX hle (Nat.lt_succ_self _) (nk_upd _ _ _) (by simpa using hl')
          · cases h
        · cases h
      · cases h
    · cases h
  · cases h
theorem nk_sSk_ok (hx : p.tables.exec = Jvm.exec) (hb : c.code = cc) {i : Instr} {len : Nat} (hd : decode cc pc = .ok (i, len)) {S' : nkS} (h : nk_sSk S i len = some S')
    (k : nkGo p l e R s m args below meth c Q E nL Ws H0 n0 ρ0 (pc + len) S') : nkGo p l e R s m args below meth c Q E nL Ws H0 n0 ρ0 pc S := by
  intro hn ρ H locs ls st hρ hR
  have hs := hR.2.2.1
  unfold nk_sSk at h
  split at h
  · cases h
  · rename_i hl
    have hl := Nat.eq_of_beq_eq_true hl
    subst hl
    split at h
    · split at h
      · rename_i x rest hst
        rw [hst] at hs
        obtain ⟨lx, xs, rfl, hs1⟩ := hs.inv1
        split at h
        · rename_i v hv
          split at h
          · rename_i hc
            cases h
            exact lv_dup hx hb hd (nk_cat1 (hR.1.1 x v hv) (nk_c02_ok hc)) (k hn ρ H locs ls _ hρ (nk_stack_ok hR ((hs1.cons lx).cons lx)))
          · cases h
        · cases h
      · cases h
    · split at h
      · rename_i x rest hst
        rw [hst] at hs
        obtain ⟨lx, xs, rfl, hs1⟩ := hs.inv1
        split at h
        · rename_i v hv
          split at h
          · rename_i hc
            cases h
            exact lv_pop hx hb hd (nk_cat1 (hR.1.1 x v hv) (nk_c02_ok hc)) (k hn ρ H locs ls _ hρ (nk_stack_ok hR hs1))
          · cases h
        · cases h
      · cases h
    · split at h
      · rename_i x y rest hst
        rw [hst] at hs
        obtain ⟨lx, xs1, rfl, hs1⟩ := hs.inv1
        obtain ⟨ly, xs, rfl, hs2⟩ := hs1.inv1
        split at h
        · rename_i v w hv hw
          split at h
          · rename_i hc
            rw [Bool.and_eq_true] at hc
            cases h
            exact lv_dup2_11 hx hb hd (nk_cat1 (hR.1.1 x v hv) (nk_c02_ok hc.1)) (nk_cat1 (hR.1.1 y w hw) (nk_c02_ok hc.2)) (k hn ρ H locs ls _ hρ (nk_stack_ok hR ((((hs2.cons ly).cons lx).cons ly).cons lx)))
          · cases h
        · cases h
      · cases h
    · cases h
end NK33
