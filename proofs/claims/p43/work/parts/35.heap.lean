/-! fields, arrays, constants -/
def nk_nth {α : Type} : List α → Nat → Option α
  | [], _ => none
  | x :: r, n => match n with
    | 0 => some x
    | k + 1 => nk_nth r k
theorem nk_nth_eq {α : Type} : ∀ (l : List α) (n : Nat), nk_nth l n = l[n]?
  | [], n => by simp [nk_nth]
  | x :: r, 0 => by simp [nk_nth]
  | x :: r, n + 1 => by
    rw [List.getElem?_cons_succ, ← nk_nth_eq r n]
    rfl
/-- the kind of what a variable shows -/
def nk_kn (S : nkS) (o : Nat) : Option Nat := match nk_g S.2.1 S.1 o with
  | some v => match v.1 with
    | 2 => some v.2.1
    | _ => none
  | none => none
theorem nk_kn_ok {E : nkE} {S : nkS} {ρ : Nat → Value} {o kn : Nat} (hA : nkAll E.2.2 S.1 S.2.1 ρ) (h : nk_kn S o = some kn) : o < S.1 ∧ ∃ a : Nat, ρ o = .ref a ∧ E.2.2 a = kn := by
  unfold nk_kn at h
  split at h
  · rename_i v hv
    have hok := hA o v hv
    obtain ⟨t, lo, hi⟩ := v
    dsimp only at h
    split at h
    · cases h
      obtain ⟨a, e1, e2⟩ := hok
      exact ⟨nk_g_lt hv, a, e1, e2⟩
    · cases h
  · cases h
def nk_mf (me : List nkMm) (o f : Nat) : Option Nat := match me with
  | [] => none
  | q :: r => match Nat.beq q.1 o && Nat.beq q.2.1 f with
    | true => some q.2.2
    | false => nk_mf r o f
theorem nk_mf_ok {me : List nkMm} {o f x : Nat} (h : nk_mf me o f = some x) : (o, f, x) ∈ me := by
  induction me with
  | nil => cases h
  | cons q r ih =>
    unfold nk_mf at h
    split at h
    · rename_i e
      cases h
      rw [Bool.and_eq_true] at e
      have e1 := Nat.eq_of_beq_eq_true e.1
      have e2 := Nat.eq_of_beq_eq_true e.2
      subst e1 e2
      exact List.mem_cons_self
    · exact List.mem_cons_of_mem _ (ih h)
def nk_lk (l : List (Nat × Nat × Nat × Nat)) (i : Nat) : Option (Nat × Nat × Nat × Nat) := match l with
  | [] => none
  | q :: r => match Nat.beq q.1 i with
    | true => some q
    | false => nk_lk r i
theorem nk_lk_ok {l : List (Nat × Nat × Nat × Nat)} {i : Nat} {q : Nat × Nat × Nat × Nat} (h : nk_lk l i = some q) : q.1 = i ∧ q ∈ l := by
  induction l with
  | nil => cases h
  | cons w r ih =>
    unfold nk_lk at h
    split at h
    · rename_i e
      cases h
      exact ⟨Nat.eq_of_beq_eq_true e, List.mem_cons_self⟩
    · exact ⟨(ih h).1, List.mem_cons_of_mem _ (ih h).2⟩
def nk_fk (own idx : Nat) : Option (Nat × Nat × Nat × Nat) := match nk_nth nhFl own with
  | some l => nk_lk l idx
  | none => none
theorem nk_fk_ok {own idx : Nat} {q : Nat × Nat × Nat × Nat} (h : nk_fk own idx = some q) : ∃ C r, nhOw[own]? = some C ∧ nhCl[q.2.1]? = some r ∧ q.2.2.1 < r.2.2 ∧ Cond.fieldLink C idx (r.2.1 q.2.2.1).1 (r.2.1 q.2.2.1).2.1 (r.2.1 q.2.2.1).2.2.1 ∈ nhTb := by
  unfold nk_fk at h
  split at h
  · rename_i l hl
    rw [nk_nth_eq] at hl
    obtain ⟨h1, h3⟩ := nk_lk_ok h
    have h2 := nh_rows nhFl_all (o := own) (q := q) (by rw [List.getD_eq_getElem?_getD, hl]; exact h3)
    unfold nh_flB at h2
    split at h2
    · rename_i C r hC hr
      rw [Bool.and_eq_true] at h2
      refine ⟨C, r, hC, hr, of_decide_eq_true h2.1, ?_⟩
      rw [← h1]
      exact nh_wd_ok h2.2
    · cases h2
  · cases h
/-- one cell is written, of it the places lo .. hi alone -/
def nkWr (E : nkE) (a : Nat) (k : nkKd) (lo hi : Nat) (H H' : Heap) : Prop := E.2.1[E.2.2 a]? = some k ∧ H'.size = H.size ∧ (∀ q : Nat, q ≠ a → H'[q]? = H[q]?) ∧ ∀ (f : Nat) (cell : Cell) (x : Value), f < k.2.2.1 → (f < lo ∨ hi < f) → H[a]? = some cell → cell.slots[nkSl E.1 k f]? = some x → ∃ cell', H'[a]? = some cell' ∧ cell'.slots[nkSl E.1 k f]? = some x
def nk_cvR : nkWs → Nat → Nat → Nat → Bool
  | [], _, _, _ => false
  | w :: r, k, lo, hi => match Nat.beq w.1 k && (Nat.ble w.2.1 lo && Nat.ble hi w.2.2) with
    | true => true
    | false => nk_cvR r k lo hi
theorem nk_cvR_off : ∀ {Ws : nkWs} {k lo hi f : Nat}, nk_cvR Ws k lo hi = true → nk_off Ws k f = true → f < lo ∨ hi < f
  | [], _, _, _, _, h, _ => by cases h
  | w :: r, k, lo, hi, f, h, g => by
    unfold nk_off at g
    unfold nk_cvR at h
    split at g
    · cases g
    · rename_i hc
      split at h
      · rename_i e
        rw [Bool.and_eq_true, Bool.and_eq_true] at e
        have e2 := Nat.le_of_ble_eq_true e.2.1
        have e3 := Nat.le_of_ble_eq_true e.2.2
        unfold nk_cov at hc
        by_cases q1 : f < lo
        · exact Or.inl q1
        · by_cases q2 : hi < f
          · exact Or.inr q2
          · exfalso
            have c2 : Nat.ble w.2.1 f = true := Nat.ble_eq_true_of_le (by omega)
            have c3 : Nat.ble f w.2.2 = true := Nat.ble_eq_true_of_le (by omega)
            rw [e.1, c2, c3] at hc
            cases hc
      · exact nk_cvR_off h g
theorem nkWr.fr {E : nkE} {a i : Nat} {k : nkKd} {lo hi : Nat} {H0 H H' : Heap} {Ws : nkWs} {locs : List Loc} (h : nkWr E a k lo hi H H') (hc : nk_cvR Ws (E.2.2 a) lo hi = true) (hF : nkFr E Ws H0 H locs) : nkFr E Ws H0 H' (locs ++ [⟨a, i⟩]) := by
  obtain ⟨h1, h2, h3, h4⟩ := h
  obtain ⟨f1, f2, f3, f4⟩ := hF
  have hlt : E.2.2 a < E.2.1.length := (List.getElem?_eq_some_iff.mp h1).1
  refine ⟨h2.trans f1, fun q hq => ?_, fun q hq => ?_, fun b k' f cell x g1 g2 g3 g4 g5 => ?_⟩
  · rw [h3 q (fun e => by subst e; omega)]
    exact f2 q hq
  · rcases List.mem_append.mp hq with h | h
    · exact f3 q h
    · rw [List.mem_singleton] at h
      subst h
      exact hlt
  · obtain ⟨cell', r1, r2⟩ := f4 b k' f cell x g1 g2 g3 g4 g5
    by_cases e : b = a
    · subst e
      rw [h1] at g1
      cases g1
      exact h4 f cell' x g2 (nk_cvR_off hc g3) r1 r2
    · exact ⟨cell', by rw [h3 b e]; exact r1, r2⟩
/-- which fields stay known -/
def nk_kpM (S : nkS) (kn lo hi : Nat) (q : nkMm) : Bool := match nk_kn S q.1 with
  | some k => match Nat.beq k kn with
    | true => Nat.blt q.2.1 lo || Nat.blt hi q.2.1
    | false => true
  | none => false
theorem nkWr.me {E : nkE} {a : Nat} {k : nkKd} {lo hi : Nat} {H H' : Heap} {S : nkS} {ρ : Nat → Value} {me : List nkMm} (h : nkWr E a k lo hi H H') (hA : nkAll E.2.2 S.1 S.2.1 ρ) (hM : nkMe E S.1 ρ H me) : nkMe E S.1 ρ H' (me.filter (nk_kpM S (E.2.2 a) lo hi)) := by
  obtain ⟨h1, h2, h3, h4⟩ := h
  intro q hq
  obtain ⟨q1, q2⟩ := List.mem_filter.mp hq
  obtain ⟨m1, m2, b, k', cell, m3, m4, m5, m6, m7⟩ := hM q q1
  refine ⟨m1, m2, b, k', ?_⟩
  by_cases e : b = a
  · subst e
    rw [h1] at m4
    cases m4
    unfold nk_kpM at q2
    split at q2
    · rename_i kk hkk
      obtain ⟨-, b', e1, e2⟩ := nk_kn_ok (E := E) hA hkk
      rw [m3] at e1
      cases e1
      split at q2
      · rw [Bool.or_eq_true] at q2
        have q3 : q.2.1 < lo ∨ hi < q.2.1 := by
          rcases q2 with q2 | q2
          · exact Or.inl (nk_blt q2)
          · exact Or.inr (nk_blt q2)
        obtain ⟨cell', r1, r2⟩ := h4 q.2.1 cell _ m5 q3 m6 m7
        exact ⟨cell', m3, h1, m5, r1, r2⟩
      · rename_i hne
        rw [← e2] at hne
        have := Nat.beq_refl (E.2.2 b)
        rw [hne] at this
        cases this
    · cases q2
  · exact ⟨cell, m3, m4, m5, by rw [h3 b e]; exact m6, m7⟩
theorem nkCell.kept {D : nhD} {Γ : Nat → Nat} {k : nkKd} {a : Nat} {H H' : Heap} (h : nkCell D Γ k a H) (hq : H'[a]? = H[a]?) : nkCell D Γ k a H' := by
  unfold nkCell at h ⊢
  split at h
  · obtain ⟨V, h1, h2⟩ := h
    exact ⟨V, h1.kept hq, h2⟩
  · obtain ⟨z, h1, h2⟩ := h
    exact ⟨z, hq.trans h1, h2⟩
  · exact h.elim
/-- kinds from 80 on are written by hand alone, while the rules are claimed to be good -/
def nk_wok (kd : List nkKd) (kn : Nat) : Bool := Nat.blt kn 80 || !(nk_jf kd)
theorem nk_wok_lt {kd : List nkKd} {kn : Nat} (h : kn < 80) : nk_wok kd kn = true := by
  unfold nk_wok
  rw [show Nat.blt kn 80 = true from Nat.ble_eq_true_of_le h]
  rfl
theorem nkWr.hp {E : nkE} {a : Nat} {k : nkKd} {lo hi : Nat} {H H' : Heap} (h : nkWr E a k lo hi H H') (hj : nk_wok E.2.1 (E.2.2 a) = true) (hH : nkH E H) (hc : nkCell E.1 E.2.2 k a H') : nkH E H' := by
  refine ⟨fun b k' hb => ?_, ?_⟩
  · by_cases e : b = a
    · subst e
      rw [h.1] at hb
      cases hb
      exact hc
    · exact (hH.1 b k' hb).kept (h.2.2.1 b e)
  · unfold nk_wok at hj
    rw [Bool.or_eq_true] at hj
    rcases hj with hj | hj
    · have hj := Nat.le_of_ble_eq_true hj
      exact hH.2.kept fun b hb => h.2.2.1 b (fun e => by subst e; omega)
    · intro hf
      rw [hf] at hj
      cases hj
/-- getfield -/
def nk_sGet (kd : List nkKd) (own : Nat) (S : nkS) (i : Instr) (len : Nat) : Option nkS := match i with
  | .getfield idx => match S.2.2.2.1 with
    | o :: rest => match nk_kn S o, nk_fk own idx with
      | some kn, some q => match nk_nth kd kn, nk_nth nhCl q.2.1 with
        | some k, some r => match Nat.beq k.1 0 && (Nat.beq k.2.1 q.2.1 && (Nat.beq k.2.2.1 r.2.2 && Nat.beq len 3)) with
          | true => match nk_mf S.2.2.2.2.1 o q.2.2.1 with
            | some x => some (S.1, S.2.1, S.2.2.1, x :: rest, S.2.2.2.2)
            | none => some (S.1 + 1, nk_ty k q.2.2.1 :: S.2.1, S.2.2.1, S.1 :: rest, (o, q.2.2.1, S.1) :: S.2.2.2.2.1, S.2.2.2.2.2)
          | false => none
        | _, _ => none
      | _, _ => none
    | [] => none
  | _ => none
def nk_fit (ty : FieldType) (v : nkV) : Bool := match ty with
  | .int => Nat.beq (nk_cat v) 0
  | .long => Nat.beq (nk_cat v) 1
  | .boolean => nk_le v (0, 18446744073709551616, 18446744073709551617)
  | .object _ => Nat.beq (nk_cat v) 2
  | .array _ => Nat.beq (nk_cat v) 2
  | _ => false
theorem nk_bool {a : Int32} (h1 : (18446744073709551616 : Int) ≤ a.toInt + 18446744073709551616) (h2 : a.toInt + 18446744073709551616 ≤ 18446744073709551617) : a = 0 ∨ a = 1 := by
  rcases (show a.toInt = 0 ∨ a.toInt = 1 by omega) with q | q
  · exact Or.inl (Int32.toInt_inj.mp (by rw [q]; rfl))
  · exact Or.inr (Int32.toInt_inj.mp (by rw [q]; rfl))
theorem nk_fit_ok {Γ : Nat → Nat} {ty : FieldType} {v : nkV} {x : Value} (h : nk_fit ty v = true) (hv : nkOk Γ v x) : narrow ty x = x ∧ fits ty x = true := by
  have hc := nk_cat_ok hv
  unfold nk_fit at h
  split at h
  · obtain ⟨a, rfl⟩ := hc.1 (Nat.eq_of_beq_eq_true h)
    exact ⟨rfl, rfl⟩
  · obtain ⟨a, rfl⟩ := hc.2.1 (Nat.eq_of_beq_eq_true h)
    exact ⟨rfl, rfl⟩
  · obtain ⟨a, rfl, h1, h2⟩ := nk_le_ok h hv
    rcases nk_bool h1 h2 with rfl | rfl
    · exact ⟨rfl, rfl⟩
    · exact ⟨rfl, rfl⟩
  · rcases hc.2.2 (Nat.eq_of_beq_eq_true h) with rfl | ⟨a, rfl⟩
    · exact ⟨rfl, rfl⟩
    · exact ⟨rfl, rfl⟩
  · rcases hc.2.2 (Nat.eq_of_beq_eq_true h) with rfl | ⟨a, rfl⟩
    · exact ⟨rfl, rfl⟩
    · exact ⟨rfl, rfl⟩
  · cases h
/-- putfield -/
def nk_sPut (kd : List nkKd) (Ws : nkWs) (own : Nat) (S : nkS) (i : Instr) (len : Nat) : Option nkS := match i with
  | .putfield idx => match S.2.2.2.1 with
    | x :: o :: rest => match nk_kn S o, nk_fk own idx with
      | some kn, some q => match nk_nth kd kn, nk_nth nhCl q.2.1, nk_g S.2.1 S.1 x with
        | some k, some r, some w => match Nat.beq k.1 0 && (Nat.beq k.2.1 q.2.1 && (Nat.beq k.2.2.1 r.2.2 && (Nat.beq len 3 && (!(r.2.1 q.2.2.1).2.2.2 && (nk_fit (nhFt q.2.1 q.2.2.1) w && (nk_le w (nk_ty k q.2.2.1) && (nk_cvR Ws kn q.2.2.1 q.2.2.1 && nk_wok kd kn))))))) with
          | true => some (S.1, S.2.1, S.2.2.1, rest, (o, q.2.2.1, x) :: S.2.2.2.2.1.filter (nk_kpM S kn q.2.2.1 q.2.2.1), S.2.2.2.2.2)
          | false => none
        | _, _, _ => none
      | _, _ => none
    | _ => none
  | _ => none
section NK35
variable {p : Program} {l : Launch} {e : Env} {R : Room} {s : State} {m : MethodId} {args : Array Value} {below : List Frame} {meth : Method} {c : Code} {Q : State → Prop}
variable {cc : ByteArray} {E : nkE} {nL own : Nat} {Ws : nkWs} {H0 : Heap} {n0 : Nat} {ρ0 : Nat → Value} {pc : Nat} {S : nkS}
theorem nk_sGet_ok (hF : nhFx p c s m args cc nL own E.1) {i : Instr} {len : Nat} (hd : decode cc pc = .ok (i, len)) {S' : nkS} (h : nk_sGet E.2.1 own S i len = some S')
    (k : nkGo p l e R s m args below meth c Q E nL Ws H0 n0 ρ0 (pc + len) S') : nkGo p l e R s m args below meth c Q E nL Ws H0 n0 ρ0 pc S := by
  intro hn ρ H locs ls st hρ hR
  obtain ⟨hx, hb, hml, ⟨C, hC, hown⟩, hts, hK⟩ := hF
  have hs := hR.2.2.1
  unfold nk_sGet at h
  split at h
  · rename_i idx
    split at h
    · rename_i o rest hst
      rw [hst] at hs
      obtain ⟨lo, st2, rfl, hs2⟩ := hs.inv1
      split at h
      · rename_i kn q hkn hq
        split at h
        · rename_i kk r hkk hr
          rw [nk_nth_eq] at hkk hr
          split at h
          · rename_i hc
            simp only [Bool.and_eq_true] at hc
            have c1 := Nat.eq_of_beq_eq_true hc.1
            have c2 := Nat.eq_of_beq_eq_true hc.2.1
            have c3 := Nat.eq_of_beq_eq_true hc.2.2.1
            have c4 := Nat.eq_of_beq_eq_true hc.2.2.2
            obtain ⟨-, a, ea, eΓ⟩ := nk_kn_ok (E := E) hR.1.1 hkn
            obtain ⟨C', r', f2, f3, f4, f5⟩ := nk_fk_ok hq
            rw [hC] at f2; cases f2
            rw [hr] at f3; cases f3
            have hcell := hR.1.2.2.2.2.1 a kk (by rw [eΓ]; exact hkk)
            obtain ⟨t, ci, N, P, avs⟩ := kk
            dsimp only at c1 c2 c3
            subst c1 c2 c3 c4
            obtain ⟨V, hV1, hV2⟩ := hcell
            dsimp only at hV1 hV2
            rw [ea]
            split at h
            · rename_i x hm
              cases h
              obtain ⟨m1, m2, a', k', cell, m3, m4, m5, m6, m7⟩ := hR.1.2.1 _ (nk_mf_ok hm)
              dsimp only at m1 m2 m3 m5 m7
              rw [ea] at m3; cases m3
              rw [eΓ, hkk] at m4; cases m4
              have eV : V q.2.2.1 = ρ x := by
                obtain ⟨cell', n1, n2, n3, n4⟩ := hV1
                rw [m6] at n1; cases n1
                exact Option.some.inj ((n4 _ f4).symm.trans m7)
              refine nh_getW hx hb hts hK hown hr f4 f5 hV1 hd (k hn ρ H locs ls _ hρ ?_)
              rw [eV]
              exact nk_stack_ok (is := x :: rest) hR (hs2.cons m2)
            · cases h
              refine nh_getW hx hb hts hK hown hr f4 f5 hV1 hd (k (Nat.le_succ_of_le hn) (updV ρ S.1 (V q.2.2.1)) H locs ls _ (hρ.tr hn (nkX.push S.1 ρ _)) ?_)
              have h1 := nk_push_ok (v := nk_ty (0, q.2.1, r.2.2, P, avs) q.2.2.1) hR hs2 (hV2 _ f4)
              obtain ⟨⟨b1, b2, b3⟩, b4⟩ := h1
              refine ⟨⟨b1, fun w hw => ?_, b3⟩, b4⟩
              rcases List.mem_cons.mp hw with rfl | hw
              · obtain ⟨cell', n1, n2, n3, n4⟩ := hV1
                refine ⟨Nat.lt_succ_of_lt lo, Nat.lt_succ_self _, a, _, cell', ?_, by rw [eΓ]; exact hkk, f4, n1, ?_⟩
                · dsimp only
                  rw [nkX.push S.1 ρ _ o lo]
                  exact ea
                · dsimp only
                  rw [nk_upd]
                  exact n4 _ f4
              · exact b2 w hw
          · cases h
        · cases h
      · cases h
    · cases h
  · cases h
theorem nk_sPut_ok (hF : nhFx p c s m args cc nL own E.1) {i : Instr} {len : Nat} (hd : decode cc pc = .ok (i, len)) {S' : nkS} (h : nk_sPut E.2.1 Ws own S i len = some S')
    (k : nkGo p l e R s m args below meth c Q E nL Ws H0 n0 ρ0 (pc + len) S') : nkGo p l e R s m args below meth c Q E nL Ws H0 n0 ρ0 pc S := by
  intro hn ρ H locs ls st hρ hR
  obtain ⟨hx, hb, hml, ⟨C, hC, hown⟩, hts, hK⟩ := hF
  have hs := hR.2.2.1
  unfold nk_sPut at h
  split at h
  · rename_i idx
    split at h
    · rename_i x o rest hst
      rw [hst] at hs
      obtain ⟨lx, st1, rfl, hs1⟩ := hs.inv1
      obtain ⟨lo, st2, rfl, hs2⟩ := hs1.inv1
      split at h
      · rename_i kn q hkn hq
        split at h
        · rename_i kk r w hkk hr hw
          rw [nk_nth_eq] at hkk hr
          split at h
          · rename_i hc
            simp only [Bool.and_eq_true, Bool.not_eq_true'] at hc
            have c1 := Nat.eq_of_beq_eq_true hc.1
            have c2 := Nat.eq_of_beq_eq_true hc.2.1
            have c3 := Nat.eq_of_beq_eq_true hc.2.2.1
            have c4 := Nat.eq_of_beq_eq_true hc.2.2.2.1
            have c5 := hc.2.2.2.2.1
            have c6 := hc.2.2.2.2.2.1
            have c7 := hc.2.2.2.2.2.2.1
            have c8 := hc.2.2.2.2.2.2.2.1
            have c9 := hc.2.2.2.2.2.2.2.2
            cases h
            obtain ⟨-, a, ea, eΓ⟩ := nk_kn_ok (E := E) hR.1.1 hkn
            obtain ⟨C', r', f2, f3, f4, f5⟩ := nk_fk_ok hq
            rw [hC] at f2; cases f2
            rw [hr] at f3; cases f3
            have hka : E.2.1[E.2.2 a]? = some kk := by rw [eΓ]; exact hkk
            have hcell := hR.1.2.2.2.2.1 a kk hka
            have hwok := hR.1.1 x w hw
            obtain ⟨n1, n2⟩ := nk_fit_ok c6 hwok
            obtain ⟨t, ci, N, P, avs⟩ := kk
            dsimp only at c1 c2 c3
            subst c1 c2 c3 c4
            obtain ⟨V, hV1, hV2⟩ := hcell
            dsimp only at hV1 hV2
            rw [ea]
            refine nh_putW hx hb hts hK hown hr f4 f5 c5 hV1 n1 n2 hd (fun H' cell e0 e1 eap e2 e3 e4 => k hn ρ H' _ ls _ hρ ?_)
            have hWr : nkWr E a (0, q.2.1, r.2.2, P, avs) q.2.2.1 q.2.2.1 H H' := by
              refine ⟨hka, e3, e4, fun f cell1 y g1 g2 g3 g4 => ⟨_, e1, ?_⟩⟩
              rw [e0] at g3; cases g3
              have hsl : E.1.2.1 q.2.1 f ≠ E.1.2.1 q.2.1 q.2.2.1 := eap _ g1 (by omega)
              show (cell.setSlot (E.1.2.1 q.2.1 q.2.2.1) (ρ x)).slots[E.1.2.1 q.2.1 f]? = some y
              simp only [Cell.setSlot]
              rw [Array.getElem?_setIfInBounds_ne (Ne.symm hsl)]
              exact g4
            obtain ⟨⟨b1, b2, b3, b4, b5⟩, b6, b7, b8⟩ := hR
            refine ⟨⟨b1, fun d hd' => ?_, b3, b4, hWr.hp (by rw [eΓ]; exact c9) b5 ⟨updV V q.2.2.1 (ρ x), e2, fun j hj => ?_⟩⟩, b6, hs2, hWr.fr (by rw [eΓ]; exact c8) b8⟩
            · rcases List.mem_cons.mp hd' with rfl | hd'
              · refine ⟨lo, lx, a, _, _, ea, hka, f4, e1, ?_⟩
                obtain ⟨cell', z1, z2, z3, z4⟩ := e2
                rw [e1] at z1; cases z1
                have := z4 _ f4
                simp only [updV, if_true] at this
                exact this
              · have hm := hWr.me (S := S) b1 b2
                rw [eΓ] at hm
                exact hm d hd'
            · by_cases ej : j = q.2.2.1
              · subst ej
                simp only [updV, if_true]
                exact nk_le_ok c7 hwok
              · simp only [updV, if_neg ej]
                exact hV2 j hj
          · cases h
        · cases h
      · cases h
    · cases h
  · cases h
end NK35
