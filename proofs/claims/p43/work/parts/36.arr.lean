/-! arrays, lengths, constants -/
def nk_jn (u v : nkV) : nkV := match u.1 with
  | 0 => match v.1 with
    | 0 => (0, Nat.min u.2.1 v.2.1, Nat.max u.2.2 v.2.2)
    | _ => u
  | _ => u
def nk_jnR (k : nkKd) : Nat → Nat → nkV → nkV
  | _, 0, u => u
  | a, n + 1, u => nk_jnR k (a + 1) n (nk_jn u (nk_ty k a))
def nk_allR (f : Nat → Bool) : Nat → Nat → Bool
  | _, 0 => true
  | a, n + 1 => match f a with
    | true => nk_allR f (a + 1) n
    | false => false
theorem nk_allR_ok {f : Nat → Bool} : ∀ {n a j : Nat}, nk_allR f a n = true → a ≤ j → j < a + n → f j = true
  | 0, a, j, _, h1, h2 => by omega
  | n + 1, a, j, h, h1, h2 => by
    unfold nk_allR at h
    split at h
    · rename_i e
      by_cases q : j = a
      · subst q; exact e
      · exact nk_allR_ok h (by omega) (by omega)
    · cases h
/-- what is read at a .. b -/
def nk_rd (k : nkKd) (a b : Nat) : Option nkV := match Nat.beq k.2.2.2.1 1 with
  | true => some (nk_ty k 0)
  | false => match Nat.beq a b with
    | true => some (nk_ty k a)
    | false => match nk_allR (fun j => nk_le (nk_ty k j) (nk_jnR k a (b + 1 - a) (nk_ty k a))) a (b + 1 - a) with
      | true => some (nk_jnR k a (b + 1 - a) (nk_ty k a))
      | false => none
theorem nk_ty1 {k : nkKd} (h1 : k.1 = 1) (h : k.2.2.2.1 = 1) (j : Nat) : nk_ty k j = nk_ty k 0 := by
  unfold nk_ty
  rw [h1, h]
  simp only [Nat.mod_one]
theorem nk_rd_ok {Γ : Nat → Nat} {k : nkKd} {a b j : Nat} {v : nkV} {x : Value} (hk : k.1 = 1) (h : nk_rd k a b = some v) (h1 : a ≤ j) (h2 : j ≤ b) (hx : nkOk Γ (nk_ty k j) x) : nkOk Γ v x := by
  unfold nk_rd at h
  split at h
  · rename_i q
    cases h
    rw [← nk_ty1 hk (Nat.eq_of_beq_eq_true q) j]
    exact hx
  · split at h
    · rename_i q
      have q := Nat.eq_of_beq_eq_true q
      cases h
      rw [show a = j by omega]
      exact hx
    · split at h
      · rename_i q
        cases h
        exact nk_le_ok (nk_allR_ok q h1 (by omega)) hx
      · cases h
/-- what may be written at a .. b -/
def nk_wr (k : nkKd) (a b : Nat) (w : nkV) : Bool := match Nat.beq k.2.2.2.1 1 with
  | true => nk_le w (nk_ty k 0)
  | false => nk_allR (fun j => nk_le w (nk_ty k j)) a (b + 1 - a)
theorem nk_wr_ok {Γ : Nat → Nat} {k : nkKd} {a b j : Nat} {w : nkV} {x : Value} (hk : k.1 = 1) (h : nk_wr k a b w = true) (h1 : a ≤ j) (h2 : j ≤ b) (hx : nkOk Γ w x) : nkOk Γ (nk_ty k j) x := by
  unfold nk_wr at h
  split at h
  · rename_i q
    rw [nk_ty1 hk (Nat.eq_of_beq_eq_true q) j]
    exact nk_le_ok h hx
  · exact nk_le_ok (nk_allR_ok h h1 (by omega)) hx
/-- what is stored of w: itself, or cut (then it has no name) -/
def nk_sI (i : Instr) (ti : Nat) (w : nkV) : Option (Bool × nkV) := match i with
  | .iastore => match Nat.beq ti 0 && Nat.beq (nk_cat w) 0 with
    | true => some (true, w)
    | false => none
  | .bastore => match Nat.beq (nk_cat w) 0 with
    | true => match Nat.beq ti 1 with
      | true => some (false, 0, 18446744073709551488, 18446744073709551743)
      | false => match Nat.beq ti 3 with
        | true => some (false, 0, 18446744073709551616, 18446744073709551617)
        | false => none
    | false => none
  | .lastore => match Nat.beq ti 2 && Nat.beq (nk_cat w) 1 with
    | true => some (true, w)
    | false => none
  | _ => none
def nk_mB (x : Nat) : Nat := x - 18446744073709551616
theorem nk_mB_ok (x : Nat) : nk_mB x = x - 18446744073709551616 := rfl
/-- an array's read -/
def nk_sAld (kd : List nkKd) (S : nkS) (i : Instr) (len : Nat) : Option nkS := match S.2.2.2.1 with
  | x :: o :: rest => match nk_kn S o, nk_g S.2.1 S.1 x with
    | some kn, some w => match nk_nth kd kn, nk_iv w with
      | some k, some q => match Nat.beq k.1 1 && (nh_aI i k.2.1 && (Nat.beq len 1 && (Nat.ble 18446744073709551616 q.1 && Nat.blt q.2 (18446744073709551616 + k.2.2.1)))) with
        | true => match Nat.beq q.1 q.2 with
          | true => match nk_mf S.2.2.2.2.1 o (nk_mB q.1) with
            | some y => some (S.1, S.2.1, S.2.2.1, y :: rest, S.2.2.2.2)
            | none => some (S.1 + 1, nk_ty k (nk_mB q.1) :: S.2.1, S.2.2.1, S.1 :: rest, (o, nk_mB q.1, S.1) :: S.2.2.2.2.1, S.2.2.2.2.2)
          | false => match nk_rd k (nk_mB q.1) (nk_mB q.2) with
            | some u => some (nk_push S rest u)
            | none => none
        | false => none
      | _, _ => none
    | _, _ => none
  | _ => none
/-- an array's write -/
def nk_sAst (kd : List nkKd) (Ws : nkWs) (S : nkS) (i : Instr) (len : Nat) : Option nkS := match S.2.2.2.1 with
  | y :: x :: o :: rest => match nk_kn S o, nk_g S.2.1 S.1 x, nk_g S.2.1 S.1 y with
    | some kn, some w, some u => match nk_nth kd kn, nk_iv w with
      | some k, some q => match Nat.beq k.1 1 && (Nat.beq len 1 && (Nat.ble 18446744073709551616 q.1 && (Nat.blt q.2 (18446744073709551616 + k.2.2.1) && (nk_cvR Ws kn (nk_mB q.1) (nk_mB q.2) && nk_wok kd kn)))) with
        | true => match nk_sI i k.2.1 u with
          | some r => match nk_wr k (nk_mB q.1) (nk_mB q.2) r.2 with
            | true => some (S.1, S.2.1, S.2.2.1, rest, (match Nat.beq q.1 q.2 && r.1 with
              | true => [(o, nk_mB q.1, y)]
              | false => []) ++ S.2.2.2.2.1.filter (nk_kpM S kn (nk_mB q.1) (nk_mB q.2)), S.2.2.2.2.2)
            | false => none
          | none => none
        | false => none
      | _, _ => none
    | _, _, _ => none
  | _ => none
/-- an array's length -/
def nk_sLen (kd : List nkKd) (S : nkS) (i : Instr) (len : Nat) : Option nkS := match i with
  | .arraylength => match S.2.2.2.1 with
    | o :: rest => match nk_kn S o with
      | some kn => match nk_nth kd kn with
        | some k => match Nat.beq k.1 1 && (Nat.beq len 1 && (Nat.blt k.2.2.1 2147483648 && Nat.blt k.2.1 5)) with
          | true => some (nk_push S rest (0, 18446744073709551616 + k.2.2.1, 18446744073709551616 + k.2.2.1))
          | false => none
        | none => none
      | none => none
    | [] => none
  | _ => none
def nk_lkI (l : List (Nat × Int32 × Nat)) (i : Nat) : Option (Nat × Int32 × Nat) := match l with
  | [] => none
  | q :: r => match Nat.beq q.1 i with
    | true => some q
    | false => nk_lkI r i
theorem nk_lkI_ok {l : List (Nat × Int32 × Nat)} {i : Nat} {q : Nat × Int32 × Nat} (h : nk_lkI l i = some q) : q.1 = i ∧ q ∈ l := by
  induction l with
  | nil => cases h
  | cons w r ih =>
    unfold nk_lkI at h
    split at h
    · rename_i e
      cases h
      exact ⟨Nat.eq_of_beq_eq_true e, List.mem_cons_self⟩
    · exact ⟨(ih h).1, List.mem_cons_of_mem _ (ih h).2⟩
def nk_lkL (l : List (Nat × Int64 × Nat)) (i : Nat) : Option (Nat × Int64 × Nat) := match l with
  | [] => none
  | q :: r => match Nat.beq q.1 i with
    | true => some q
    | false => nk_lkL r i
theorem nk_lkL_ok {l : List (Nat × Int64 × Nat)} {i : Nat} {q : Nat × Int64 × Nat} (h : nk_lkL l i = some q) : q.1 = i ∧ q ∈ l := by
  induction l with
  | nil => cases h
  | cons w r ih =>
    unfold nk_lkL at h
    split at h
    · rename_i e
      cases h
      exact ⟨Nat.eq_of_beq_eq_true e, List.mem_cons_self⟩
    · exact ⟨(ih h).1, List.mem_cons_of_mem _ (ih h).2⟩
/-- constants -/
def nk_sLdc (own : Nat) (S : nkS) (i : Instr) (len : Nat) : Option nkS := match i with
  | .ldc idx => match nk_lkI (nhIc.getD own []) idx with
    | some q => match Nat.beq len 2 with
      | true => some (nk_push S S.2.2.2.1 (0, nk_cI q.2.1.toInt, nk_cI q.2.1.toInt))
      | false => none
    | none => none
  | .ldc_w idx => match nk_lkI (nhIc.getD own []) idx with
    | some q => match Nat.beq len 3 with
      | true => some (nk_push S S.2.2.2.1 (0, nk_cI q.2.1.toInt, nk_cI q.2.1.toInt))
      | false => none
    | none => none
  | .ldc2_w idx => match nk_lkL (nhLc.getD own []) idx with
    | some q => match Nat.beq len 3 with
      | true => some (nk_push S S.2.2.2.1 (1, nk_cI q.2.1.toInt, nk_cI q.2.1.toInt))
      | false => none
    | none => none
  | _ => none
theorem nk_c32_ok (Γ : Nat → Nat) (r : Int32) : nkOk Γ (0, nk_cI r.toInt, nk_cI r.toInt) (.int r) := by
  have hr := fb_rng r
  refine ⟨r, rfl, ?_, ?_⟩
  · dsimp only; unfold nk_cI; omega
  · dsimp only; unfold nk_cI; omega
theorem nk_c64_ok (Γ : Nat → Nat) (r : Int64) : nkOk Γ (1, nk_cI r.toInt, nk_cI r.toInt) (.long r) := by
  have hr := fb_rngL r
  refine ⟨r, rfl, ?_, ?_⟩
  · dsimp only; unfold nk_cI; omega
  · dsimp only; unfold nk_cI; omega
section NK36
variable {p : Program} {l : Launch} {e : Env} {R : Room} {s : State} {m : MethodId} {args : Array Value} {below : List Frame} {meth : Method} {c : Code} {Q : State → Prop}
variable {cc : ByteArray} {E : nkE} {nL own : Nat} {Ws : nkWs} {H0 : Heap} {n0 : Nat} {ρ0 : Nat → Value} {pc : Nat} {S : nkS}
theorem nk_astW {Γ : Nat → Nat} {H : Heap} {locs : List Loc} {ls : Array Slot} {rest : List Value} {D : nhD} (hx : p.tables.exec = Jvm.exec) (hb : c.code = cc) (hK : nhK D s) {i : Instr} {ti n a : Nat} {w : nkV} {w' : Bool × nkV} (hi : nk_sI i ti w = some w') {x : Value} (hw : nkOk Γ w x) {z : Nat → Value} (ha : H[a]? = some (arrV (D.2.2 ti) n z)) {j : Int32} (h1 : 0 ≤ j.toInt) (h2 : j.toInt < n) (hd : decode cc pc = .ok (i, 1))
    (k : ∀ (H' : Heap) (x' : Value), nkOk Γ w'.2 x' → (w'.1 = true → x' = x) → H'[a]? = some (arrV (D.2.2 ti) n (updV z j.toNatClampNeg x')) → H'.size = H.size → (∀ q : Nat, q ≠ a → H'[q]? = H[q]?) → W p l e R s m args below meth c H' (locs ++ [⟨a, j.toNatClampNeg⟩]) 0 0 Q (F0 m (pc + 1) ls rest)) : W p l e R s m args below meth c H locs 0 0 Q (F0 m pc ls (x :: .int j :: .ref a :: rest)) := by
  have hin := (nh_ix h1 h2).1
  have hs : ¬ (j < 0 ∨ (arrV (D.2.2 ti) n z).slots.size ≤ j.toNatClampNeg) := by rw [arrV_size]; exact hin
  have hc := nk_cat_ok hw
  unfold nk_sI at hi
  split at hi
  · split at hi
    · rename_i q
      rw [Bool.and_eq_true] at q
      have q0 := Nat.eq_of_beq_eq_true q.1
      subst q0
      have hi := Option.some.inj hi
      subst hi
      obtain ⟨b, rfl⟩ := hc.1 (Nat.eq_of_beq_eq_true q.2)
      exact W.iast hx hb ha ((hK.2 0 .int rfl).1 n z) (fun q => by cases q) hs rfl rfl hd (fun H' e1 e2 e3 => k H' _ hw (fun _ => rfl) (by rw [e1, arrV_store]) e2 e3)
    · cases hi
  · split at hi
    · rename_i q
      obtain ⟨b, rfl⟩ := hc.1 (Nat.eq_of_beq_eq_true q)
      split at hi
      · rename_i q0
        have q0 := Nat.eq_of_beq_eq_true q0
        subst q0
        have hi := Option.some.inj hi
        subst hi
        have hr := nh_i2b_rng b
        exact W.bast hx hb ha ((hK.2 1 .byte rfl).1 n z) (fun q => by cases q) hs rfl rfl hd (fun H' e1 e2 e3 => k H' (.int b.toInt8.toInt32) ⟨_, rfl, by dsimp only; omega, by dsimp only; omega⟩ (fun q => by cases q) (by rw [e1, arrV_store]; rfl) e2 e3)
      · split at hi
        · rename_i q0
          have q0 := Nat.eq_of_beq_eq_true q0
          subst q0
          have hi := Option.some.inj hi
          subst hi
          have hr := nh_and1 b
          exact W.zast hx hb ha ((hK.2 3 .boolean rfl).1 n z) (fun q => by cases q) hs rfl rfl hd (fun H' e1 e2 e3 => k H' (.int (b &&& 1)) ⟨_, rfl, by dsimp only; omega, by dsimp only; omega⟩ (fun q => by cases q) (by rw [e1, arrV_store]; rfl) e2 e3)
        · cases hi
    · cases hi
  · split at hi
    · rename_i q
      rw [Bool.and_eq_true] at q
      have q0 := Nat.eq_of_beq_eq_true q.1
      subst q0
      have hi := Option.some.inj hi
      subst hi
      obtain ⟨b, rfl⟩ := hc.2.1 (Nat.eq_of_beq_eq_true q.2)
      exact W.last hx hb ha ((hK.2 2 .long rfl).1 n z) (fun q => by cases q) hs rfl rfl hd (fun H' e1 e2 e3 => k H' _ hw (fun _ => rfl) (by rw [e1, arrV_store]) e2 e3)
    · cases hi
  · cases hi
theorem nk_sAld_ok (hF : nhFx p c s m args cc nL own E.1) {i : Instr} {len : Nat} (hd : decode cc pc = .ok (i, len)) {S' : nkS} (h : nk_sAld E.2.1 S i len = some S')
    (k : nkGo p l e R s m args below meth c Q E nL Ws H0 n0 ρ0 (pc + len) S') : nkGo p l e R s m args below meth c Q E nL Ws H0 n0 ρ0 pc S := by
  intro hn ρ H locs ls st hρ hR
  obtain ⟨hx, hb, hml, ⟨C, hC, hown⟩, hts, hK⟩ := hF
  have hs := hR.2.2.1
  unfold nk_sAld at h
  split at h
  · rename_i x o rest hst
    rw [hst] at hs
    obtain ⟨lx, st1, rfl, hs1⟩ := hs.inv1
    obtain ⟨lo, st2, rfl, hs2⟩ := hs1.inv1
    split at h
    · rename_i kn w hkn hw
      split at h
      · rename_i kk q hkk hq
        rw [nk_nth_eq] at hkk
        split at h
        · rename_i hc
          simp only [Bool.and_eq_true] at hc
          have c1 := Nat.eq_of_beq_eq_true hc.1
          have c2 := hc.2.1
          have c3 := Nat.eq_of_beq_eq_true hc.2.2.1
          have c4 := Nat.le_of_ble_eq_true hc.2.2.2.1
          have c5 := nk_blt hc.2.2.2.2
          subst c3
          have hqa := nk_mB_ok q.1
          have hqb := nk_mB_ok q.2
          generalize nk_mB q.1 = qa at h hqa
          generalize nk_mB q.2 = qb at h hqb
          obtain ⟨-, a, ea, eΓ⟩ := nk_kn_ok (E := E) hR.1.1 hkn
          have hka : E.2.1[E.2.2 a]? = some kk := by rw [eΓ]; exact hkk
          have hcell := hR.1.2.2.2.2.1 a kk hka
          obtain ⟨j, ej, j1, j2⟩ := nk_iv_ok hq (hR.1.1 x w hw)
          obtain ⟨t, ti, n, P, els⟩ := kk
          dsimp only at c1 c2 c5
          subst c1
          obtain ⟨z, hz1, hz2⟩ := hcell
          dsimp only at hz1 hz2
          have g1 : 0 ≤ j.toInt := by omega
          have g2 : j.toInt < (n : Int) := by omega
          have hix := nh_ix (j := j) (n := n) g1 g2
          have hjn : j.toNatClampNeg < n := by omega
          have g3 : qa ≤ j.toNatClampNeg := by omega
          have g4 : j.toNatClampNeg ≤ qb := by omega
          have g5 : q.1 = q.2 → j.toNatClampNeg = qa := fun h => by omega
          have g6 : q.1 = q.2 → qa < n := fun h => by omega
          clear hqa hqb c4 c5 j1 j2
          rw [ea, ej]
          split at h
          · rename_i hqq
            have hqq := Nat.eq_of_beq_eq_true hqq
            have ej2 := g5 hqq
            have g7 := g6 hqq
            clear g3 g4 g5 g6 hqq
            subst ej2
            split at h
            · rename_i y hm
              cases h
              obtain ⟨m1, m2, a', k', cell, m3, m4, m5, m6, m7⟩ := hR.1.2.1 _ (nk_mf_ok hm)
              dsimp only at m1 m2 m3 m5 m7
              rw [ea] at m3; cases m3
              rw [hka] at m4; cases m4
              have eV : z j.toNatClampNeg = ρ y := by
                rw [hz1] at m6
                cases m6
                have hr := arrV_read (E.1.2.2 ti) z hjn
                exact Option.some.inj (hr.symm.trans m7)
              refine nh_aldW hx hb hK c2 hz1 g1 g2 hd (k hn ρ H locs ls _ hρ ?_)
              rw [eV]
              exact nk_stack_ok (is := y :: rest) hR (hs2.cons m2)
            · have h := Option.some.inj h
              subst h
              refine nh_aldW hx hb hK c2 hz1 g1 g2 hd (k (Nat.le_succ_of_le hn) (updV ρ S.1 (z j.toNatClampNeg)) H locs ls _ (hρ.tr hn (nkX.push S.1 ρ _)) ?_)
              have h1 := nk_push_ok (v := nk_ty (1, ti, n, P, els) j.toNatClampNeg) (x := z j.toNatClampNeg) hR hs2 (hz2 _ hjn)
              obtain ⟨⟨b1, b2, b3⟩, b4⟩ := h1
              refine ⟨⟨b1, fun w hw => ?_, b3⟩, b4⟩
              rcases List.mem_cons.mp hw with rfl | hw
              · refine ⟨Nat.lt_succ_of_lt lo, Nat.lt_succ_self _, a, _, _, ?_, hka, ?_, hz1, ?_⟩
                · dsimp only
                  rw [nkX.push S.1 ρ _ o lo]
                  exact ea
                · exact hjn
                · dsimp only
                  rw [nk_upd]
                  exact arrV_read (E.1.2.2 ti) z hjn
              · exact b2 w hw
          · split at h
            · rename_i u hu
              cases h
              refine nh_aldW hx hb hK c2 hz1 g1 g2 hd (k (Nat.le_succ_of_le hn) (updV ρ S.1 (z j.toNatClampNeg)) H locs ls _ (hρ.tr hn (nkX.push S.1 ρ _)) (nk_push_ok hR hs2 ?_))
              exact nk_rd_ok rfl hu g3 g4 (hz2 _ hjn)
            · cases h
        · cases h
      · cases h
    · cases h
  · cases h
theorem nk_sAst_ok (hF : nhFx p c s m args cc nL own E.1) {i : Instr} {len : Nat} (hd : decode cc pc = .ok (i, len)) {S' : nkS} (h : nk_sAst E.2.1 Ws S i len = some S')
    (k : nkGo p l e R s m args below meth c Q E nL Ws H0 n0 ρ0 (pc + len) S') : nkGo p l e R s m args below meth c Q E nL Ws H0 n0 ρ0 pc S := by
  intro hn ρ H locs ls st hρ hR
  obtain ⟨hx, hb, hml, ⟨C, hC, hown⟩, hts, hK⟩ := hF
  have hs := hR.2.2.1
  unfold nk_sAst at h
  split at h
  · rename_i y x o rest hst
    rw [hst] at hs
    obtain ⟨ly, st0, rfl, hs0⟩ := hs.inv1
    obtain ⟨lx, st1, rfl, hs1⟩ := hs0.inv1
    obtain ⟨lo, st2, rfl, hs2⟩ := hs1.inv1
    split at h
    · rename_i kn w u hkn hw hu
      split at h
      · rename_i kk q hkk hq
        rw [nk_nth_eq] at hkk
        split at h
        · rename_i hc
          simp only [Bool.and_eq_true] at hc
          have c1 := Nat.eq_of_beq_eq_true hc.1
          have c3 := Nat.eq_of_beq_eq_true hc.2.1
          have c4 := Nat.le_of_ble_eq_true hc.2.2.1
          have c5 := nk_blt hc.2.2.2.1
          have c6 := hc.2.2.2.2.1
          have c9 := hc.2.2.2.2.2
          subst c3
          have hqa := nk_mB_ok q.1
          have hqb := nk_mB_ok q.2
          generalize nk_mB q.1 = qa at h c6 hqa
          generalize nk_mB q.2 = qb at h c6 hqb
          split at h
          · rename_i r hr
            split at h
            · rename_i hwr
              have h := Option.some.inj h
              subst h
              obtain ⟨-, a, ea, eΓ⟩ := nk_kn_ok (E := E) hR.1.1 hkn
              have hka : E.2.1[E.2.2 a]? = some kk := by rw [eΓ]; exact hkk
              have hcell := hR.1.2.2.2.2.1 a kk hka
              obtain ⟨j, ej, j1, j2⟩ := nk_iv_ok hq (hR.1.1 x w hw)
              have huok := hR.1.1 y u hu
              obtain ⟨t, ti, n, P, els⟩ := kk
              dsimp only at c1 c5 hr
              subst c1
              obtain ⟨z, hz1, hz2⟩ := hcell
              dsimp only at hz1 hz2
              have hix := nh_ix (j := j) (n := n) (by omega) (by omega)
              have hjn : j.toNatClampNeg < n := by omega
              have hja : qa ≤ j.toNatClampNeg ∧ j.toNatClampNeg ≤ qb := by omega
              rw [ea, ej]
              refine nk_astW hx hb hK hr huok hz1 (by omega) (by omega) hd (fun H' x2 ok2 ox2 e1 e2 e3 => k hn ρ H' _ ls _ hρ ?_)
              have hWr : nkWr E a (1, ti, n, P, els) qa qb H H' := by
                refine ⟨hka, e2, e3, fun f cell1 v g1 g2 g3 g4 => ⟨_, e1, ?_⟩⟩
                rw [hz1] at g3; cases g3
                have h5 := arrV_read (E.1.2.2 ti) z g1
                have h6 := arrV_read (E.1.2.2 ti) (updV z j.toNatClampNeg x2) g1
                have h7 : updV z j.toNatClampNeg x2 f = z f := by
                  unfold updV
                  rw [if_neg (by omega)]
                rw [h7] at h6
                exact h6.trans (h5.symm.trans g4)
              obtain ⟨⟨b1, b2, b3, b4, b5⟩, b6, b7, b8⟩ := hR
              refine ⟨⟨b1, fun d hd' => ?_, b3, b4, hWr.hp (by rw [eΓ]; exact c9) b5 ⟨updV z j.toNatClampNeg x2, e1, fun i' hi' => ?_⟩⟩, b6, hs2, hWr.fr (by rw [eΓ]; exact c6) b8⟩
              · rcases List.mem_append.mp hd' with hd' | hd'
                · split at hd'
                  · rename_i hcc
                    rw [Bool.and_eq_true] at hcc
                    have h8 := Nat.eq_of_beq_eq_true hcc.1
                    rw [List.mem_singleton] at hd'
                    subst hd'
                    have ej2 : qa = j.toNatClampNeg := by omega
                    refine ⟨lo, ly, a, _, _, ea, hka, by dsimp only; omega, e1, ?_⟩
                    dsimp only
                    rw [ej2]
                    have h6 := arrV_read (E.1.2.2 ti) (updV z j.toNatClampNeg x2) hjn
                    rw [nk_upd] at h6
                    rw [← ox2 hcc.2]
                    exact h6
                  · cases hd'
                · have hm := hWr.me (S := S) b1 b2
                  rw [eΓ] at hm
                  exact hm d hd'
              · by_cases e4 : i' = j.toNatClampNeg
                · subst e4
                  simp only [updV, if_true]
                  exact nk_wr_ok rfl hwr hja.1 hja.2 ok2
                · simp only [updV, if_neg e4]
                  exact hz2 i' hi'
            · cases h
          · cases h
        · cases h
      · cases h
    · cases h
  · cases h
theorem nk_sLen_ok (hF : nhFx p c s m args cc nL own E.1) {i : Instr} {len : Nat} (hd : decode cc pc = .ok (i, len)) {S' : nkS} (h : nk_sLen E.2.1 S i len = some S')
    (k : nkGo p l e R s m args below meth c Q E nL Ws H0 n0 ρ0 (pc + len) S') : nkGo p l e R s m args below meth c Q E nL Ws H0 n0 ρ0 pc S := by
  intro hn ρ H locs ls st hρ hR
  obtain ⟨hx, hb, hml, ⟨C, hC, hown⟩, hts, hK⟩ := hF
  have hs := hR.2.2.1
  unfold nk_sLen at h
  split at h
  · split at h
    · rename_i o rest hst
      rw [hst] at hs
      obtain ⟨lo, st2, rfl, hs2⟩ := hs.inv1
      split at h
      · rename_i kn hkn
        split at h
        · rename_i kk hkk
          rw [nk_nth_eq] at hkk
          split at h
          · rename_i hc
            simp only [Bool.and_eq_true] at hc
            have c1 := Nat.eq_of_beq_eq_true hc.1
            have c2 := Nat.eq_of_beq_eq_true hc.2.1
            have c3 := nk_blt hc.2.2.1
            have c4 := nk_blt hc.2.2.2
            subst c2
            have h := Option.some.inj h
            subst h
            obtain ⟨-, a, ea, eΓ⟩ := nk_kn_ok (E := E) hR.1.1 hkn
            have hka : E.2.1[E.2.2 a]? = some kk := by rw [eΓ]; exact hkk
            have hcell := hR.1.2.2.2.2.1 a kk hka
            obtain ⟨t, ti, n, P, els⟩ := kk
            dsimp only at c1 c3 c4
            subst c1
            obtain ⟨z, hz1, hz2⟩ := hcell
            dsimp only at hz1 hz2
            have hn1 : (nI n).toInt = (n : Int) := nI_toInt (by omega)
            have hty : ∃ ty, nhTy[ti]? = some ty := by
              match ti, c4 with
              | 0, _ => exact ⟨_, rfl⟩
              | 1, _ => exact ⟨_, rfl⟩
              | 2, _ => exact ⟨_, rfl⟩
              | 3, _ => exact ⟨_, rfl⟩
              | 4, _ => exact ⟨_, rfl⟩
            obtain ⟨ty, hty⟩ := hty
            rw [ea]
            exact W.alen (n := nI n) hx hb hz1 ((hK.2 ti ty hty).1 n z) (by rw [arrV_size]; rfl) rfl rfl hd (k (Nat.le_succ_of_le hn) (updV ρ S.1 (.int (nI n))) H locs ls _ (hρ.tr hn (nkX.push S.1 ρ _)) (nk_push_ok hR hs2 ⟨nI n, rfl, by dsimp only; omega, by dsimp only; omega⟩))
          · cases h
        · cases h
      · cases h
    · cases h
  · cases h
theorem nk_sLdc_ok (hF : nhFx p c s m args cc nL own E.1) {i : Instr} {len : Nat} (hd : decode cc pc = .ok (i, len)) {S' : nkS} (h : nk_sLdc own S i len = some S')
    (k : nkGo p l e R s m args below meth c Q E nL Ws H0 n0 ρ0 (pc + len) S') : nkGo p l e R s m args below meth c Q E nL Ws H0 n0 ρ0 pc S := by
  intro hn ρ H locs ls st hρ hR
  obtain ⟨hx, hb, hml, ⟨C, hC, hown⟩, hts, hK⟩ := hF
  unfold nk_sLdc at h
  split at h
  · split at h
    · rename_i q hq
      split at h
      · rename_i hl
        have hl := Nat.eq_of_beq_eq_true hl
        have h := Option.some.inj h
        subst h hl
        obtain ⟨h1, h2⟩ := nk_lkI_ok hq
        have h2 := nh_rows nhIc_all h2
        unfold nh_icB at h2
        rw [hC] at h2
        have h3 := nh_wd_ok h2
        rw [h1] at h3
        exact lv_ldc hx hb hown (hts _ h3) hd (k (Nat.le_succ_of_le hn) _ H locs ls _ (hρ.tr hn (nkX.push S.1 ρ _)) (nk_push_ok hR hR.2.2.1 (nk_c32_ok _ _)))
      · cases h
    · cases h
  · split at h
    · rename_i q hq
      split at h
      · rename_i hl
        have hl := Nat.eq_of_beq_eq_true hl
        have h := Option.some.inj h
        subst h hl
        obtain ⟨h1, h2⟩ := nk_lkI_ok hq
        have h2 := nh_rows nhIc_all h2
        unfold nh_icB at h2
        rw [hC] at h2
        have h3 := nh_wd_ok h2
        rw [h1] at h3
        exact lv_ldcw hx hb hown (hts _ h3) hd (k (Nat.le_succ_of_le hn) _ H locs ls _ (hρ.tr hn (nkX.push S.1 ρ _)) (nk_push_ok hR hR.2.2.1 (nk_c32_ok _ _)))
      · cases h
    · cases h
  · split at h
    · rename_i q hq
      split at h
      · rename_i hl
        have hl := Nat.eq_of_beq_eq_true hl
        have h := Option.some.inj h
        subst h hl
        obtain ⟨h1, h2⟩ := nk_lkL_ok hq
        have h2 := nh_rows nhLc_all h2
        unfold nh_lcB at h2
        rw [hC] at h2
        have h3 := nh_wd_ok h2
        rw [h1] at h3
        exact lv_ldc2 hx hb hown (hts _ h3) hd (k (Nat.le_succ_of_le hn) _ H locs ls _ (hρ.tr hn (nkX.push S.1 ρ _)) (nk_push_ok hR hR.2.2.1 (nk_c64_ok _ _)))
      · cases h
    · cases h
  · cases h
end NK36
