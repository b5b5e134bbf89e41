section CE4
variable {p : Program} {l : Launch} {e : Env} {R : Room} {s : State} {m : MethodId} {args : Array Value} {below : List Frame} {meth : Method} {c : Code} {Q : State → Prop} {cc : ByteArray} {pc own : Nat} {D : nhD} {ρ : Nat → Int32} {B : Nat} {H0 : Heap} {nL cn cz : Nat} {lo : List (Nat × ceV)} {st : List ceV} {hp : ceHp}
variable {H : Heap} {locs : List Loc} {ls : Array Slot} {rest : List Value} {cells slots : Nat}
theorem ce_astW (hx : p.tables.exec = Jvm.exec) (hb : c.code = cc) (hK : nhK D s) {i : Instr} {ti n a : Nat} {v w : ceV} (hi : ce_nar i ti v = some w) {z : Nat → Value} (ha : H[a]? = some (arrV (D.2.2 ti) n z)) {j : Int32} (h1 : 0 ≤ j.toInt) (h2 : j.toInt < n) (hd : decode cc pc = .ok (i, 1))
    (k : ∀ (H' : Heap), H'[a]? = some (arrV (D.2.2 ti) n (updV z j.toNatClampNeg (ce_c ρ B w))) → H'.size = H.size → (∀ q : Nat, q ≠ a → H'[q]? = H[q]?) → W p l e R s m args below meth c H' (locs ++ [⟨a, j.toNatClampNeg⟩]) cells slots Q (F0 m (pc + 1) ls rest)) : W p l e R s m args below meth c H locs cells slots Q (F0 m pc ls (ce_c ρ B v :: .int j :: .ref a :: rest)) := by
  have hin := (nh_ix h1 h2).1
  have hs : ¬ (j < 0 ∨ (arrV (D.2.2 ti) n z).slots.size ≤ j.toNatClampNeg) := by rw [arrV_size]; exact hin
  unfold ce_nar at hi
  split at hi
  · cases hi
    exact W.iast hx hb ha ((hK.2 0 .int rfl).1 n z) (fun q => by cases q) hs rfl rfl hd (fun H' e1 e2 e3 => k H' (by rw [e1, arrV_store, ce_i]) e2 e3)
  · rename_i t x _
    split at hi
    · rename_i q
      cases hi
      rw [ce_cU ρ B q] at k ⊢
      exact W.iast hx hb ha ((hK.2 0 .int rfl).1 n z) (fun q => by cases q) hs rfl rfl hd (fun H' e1 e2 e3 => k H' (by rw [e1, arrV_store]) e2 e3)
    · cases hi
  · cases hi
    exact W.bast hx hb ha ((hK.2 1 .byte rfl).1 n z) (fun q => by cases q) hs rfl rfl hd (fun H' e1 e2 e3 => k H' (by rw [e1, arrV_store, ce_i]; rfl) e2 e3)
  · rename_i t x _
    split at hi
    · rename_i q
      cases hi
      have hu : (ce_un ρ t x).toInt8.toInt32 = ce_un ρ t x := by
        unfold ce_un
        rw [if_neg (by omega), if_neg (by omega), if_neg (by omega)]
        split
        · rw [Int8.toInt8_toInt32]
        · rw [if_pos q.2, Int8.toInt8_toInt32]
      rw [ce_cU ρ B (by omega)]
      rw [ce_cU ρ B (by omega)] at k
      have hn : narrow FieldType.byte (Value.int (ce_un ρ t x)) = Value.int (ce_un ρ t x) := by
        show Value.int (ce_un ρ t x).toInt8.toInt32 = _
        rw [hu]
      exact W.bast hx hb ha ((hK.2 1 .byte rfl).1 n z) (fun q => by cases q) hs rfl rfl hd (fun H' e1 e2 e3 => k H' (by rw [e1, arrV_store, hn]) e2 e3)
    · cases hi
  · cases hi
    exact W.zast hx hb ha ((hK.2 3 .boolean rfl).1 n z) (fun q => by cases q) hs rfl rfl hd (fun H' e1 e2 e3 => k H' (by rw [e1, arrV_store, ce_i]; rfl) e2 e3)
  · cases hi
    exact W.last hx hb ha ((hK.2 2 .long rfl).1 n z) (fun q => by cases q) hs rfl rfl hd (fun H' e1 e2 e3 => k H' (by rw [e1, arrV_store, ce_l]) e2 e3)
  · cases hi
theorem ce_updA {els : List ceV} {k : Nat} {v : ceV} (hk : k < els.length) : updV (fun j => ce_c ρ B (els.getD j (3, 0))) k (ce_c ρ B v) = fun j => ce_c ρ B ((els.set k v).getD j (3, 0)) := by
  funext j
  exact ce_setV hk j
theorem ce_cellA {ti a : Nat} {els : List ceV} (h : ceCell D ρ B (1, ti, els) a H) : H[a]? = some (arrV (D.2.2 ti) els.length (fun j => ce_c ρ B (els.getD j (3, 0)))) := h
theorem ce_arr_ok (hF : nhFx p c s m args cc nL own D) {i : Instr} {len : Nat} (hd : decode cc pc = .ok (i, len)) {S' : ceS} (h : ce_arr pc i len lo st hp = some S')
    (k : ceGo p l e R s m args below meth c Q D ρ B H0 nL cn cz S') : ceGo p l e R s m args below meth c Q D ρ B H0 nL cn cz (pc, lo, st, hp) := by
  intro H locs ls hR
  obtain ⟨hx, hb, hml, ⟨C, hC, hown⟩, hts, hK⟩ := hF
  unfold ce_arr at h
  split at h
  · rename_i hl
    subst hl
    split at h
    · split at h
      · rename_i o r
        split at h
        · rename_i kk hkk
          split at h
          · rename_i hc
            cases h
            obtain ⟨c1, c2, c3⟩ := hc
            have hcell := hR.2.2.2.1.2.2 _ _ hkk
            obtain ⟨t, ti, els⟩ := kk
            dsimp only at c1 c2 c3
            subst c1
            have hA := ce_cellA hcell
            have hty : ∃ ty, nhTy[ti]? = some ty := by
              match ti, c2 with
              | 0, _ => exact ⟨_, rfl⟩
              | 1, _ => exact ⟨_, rfl⟩
              | 2, _ => exact ⟨_, rfl⟩
              | 3, _ => exact ⟨_, rfl⟩
              | 4, _ => exact ⟨_, rfl⟩
            obtain ⟨ty, hty⟩ := hty
            have hn : ce_c ρ B (0, (els.length : Int)) = .int (nI els.length) := by
              rw [← nI_toInt (n := els.length) (by omega)]
              exact ce_i ρ B _
            have k1 := k H locs ls hR
            dsimp only at k1
            rw [List.map_cons, hn] at k1
            exact W.alen (n := nI els.length) hx hb hA ((hK.2 ti ty hty).1 _ _) (by rw [arrV_size]; rfl) rfl rfl hd k1
          · cases h
        · cases h
      · cases h
    · split at h
      · rename_i v x o r
        split at h
        · rename_i kk kv hkk hkv
          split at h
          · rename_i hc
            cases h
            obtain ⟨c1, c2, c3, c4, c5, c6⟩ := hc
            have hcell := hR.2.2.2.1.2.2 _ _ hkk
            have hcellv := hR.2.2.2.1.2.2 _ _ hkv
            obtain ⟨t, ti, els⟩ := kk
            obtain ⟨tv, civ, fs⟩ := kv
            dsimp only at c1 c2 c3 c4 c6
            subst c1 c2 c3 c4
            have hA := ce_cellA hcell
            obtain ⟨cellV, g1, g2, g3, -⟩ : t_OB (B + v.toNat) (D.1 4) fs.length (D.2.1 4) H (fun k => ce_c ρ B (fs.getD k (3, 0))) := hcellv
            have hcls := (hK.1 4 _ rfl).2
            obtain ⟨kA, comp, k1, k2, k3, -⟩ := (hK.2 4 _ rfl).2
            have hcomp : comp = D.1 4 := Option.some.inj (k3.symm.trans hcls.1)
            subst hcomp
            obtain ⟨kC, hkC, hkC2⟩ := hcls.2
            have hix := nh_ix c5 c6
            have hin := ce_ixN c5 c6
            refine W.aast hx hb hA (fun q h => by cases h) (fun h => by cases h) k1 k2 rfl hkC ⟨fun q => hix.1 (Or.inl q), by rw [arrV_size]; omega⟩ g1 (fun q h => by rw [g3] at h; cases h) (by rw [g2]; exact hkC) (by rw [g2]; exact va_assign hcls) rfl rfl hd fun H1 e z oq => ?_
            refine k H1 _ ls ⟨hR.1, hR.2.1, hR.2.2.1, hR.2.2.2.1.put hkk ?_ z oq, ce_locs hR.2.2.2.2 (by omega)⟩
            show H1[B + o.toNat]? = some (arrV _ _ _)
            rw [e, arrV_store, List.length_set, hin, ← ce_updA (els := els) (k := (Int32.ofInt x).toInt.toNat) (v := (2, v)) (by omega)]
            rfl
          · cases h
        · cases h
      · cases h
    · split at h
      · rename_i x o r
        split at h
        · rename_i kk hkk
          split at h
          · rename_i hc
            cases h
            obtain ⟨c1, c2, c3, c4⟩ := hc
            have hcell := hR.2.2.2.1.2.2 _ _ hkk
            obtain ⟨t, ti, els⟩ := kk
            dsimp only at c1 c2 c4
            subst c1
            have hA := ce_cellA hcell
            have hin := ce_ixN c3 c4
            have k1 := k H locs ls hR
            refine nh_aldW hx hb hK c2 hA c3 c4 hd ?_
            rw [hin]
            exact k1
          · cases h
        · cases h
      · rename_i v x o r
        split at h
        · rename_i kk hkk
          split at h
          · rename_i w hw
            split at h
            · rename_i hc
              cases h
              obtain ⟨c1, c3, c4⟩ := hc
              have hcell := hR.2.2.2.1.2.2 _ _ hkk
              obtain ⟨t, ti, els⟩ := kk
              dsimp only at c1 c4 hw
              subst c1
              have hA := ce_cellA hcell
              have hin := ce_ixN c3 c4
              refine ce_astW (B := B) hx hb hK hw hA c3 c4 hd (fun H' e1 e2 e3 => ?_)
              refine k H' _ ls ⟨hR.1, hR.2.1, hR.2.2.1, hR.2.2.2.1.put hkk ?_ e2 e3, ce_locs hR.2.2.2.2 (by omega)⟩
              show H'[B + o.toNat]? = some (arrV _ _ _)
              rw [e1, List.length_set, hin, ← ce_updA (els := els) (k := (Int32.ofInt x).toInt.toNat) (v := w) (by omega)]
            · cases h
          · cases h
        · cases h
      · cases h
  · cases h
/-- constants -/
def ce_ldc (own pc : Nat) (i : Instr) (len : Nat) (lo : List (Nat × ceV)) (st : List ceV) (hp : ceHp) : Option ceS := match i with
  | .ldc idx => match (nhIc.getD own []).find? (fun q => q.1 == idx) with
    | some q => if len = 2 then some (pc + 2, lo, (0, q.2.1.toInt) :: st, hp) else none
    | none => none
  | .ldc_w idx => match (nhIc.getD own []).find? (fun q => q.1 == idx) with
    | some q => if len = 3 then some (pc + 3, lo, (0, q.2.1.toInt) :: st, hp) else none
    | none => none
  | .ldc2_w idx => match (nhLc.getD own []).find? (fun q => q.1 == idx) with
    | some q => if len = 3 then some (pc + 3, lo, (1, q.2.1.toInt) :: st, hp) else none
    | none => none
  | _ => none
theorem ce_ldc_ok (hF : nhFx p c s m args cc nL own D) {i : Instr} {len : Nat} (hd : decode cc pc = .ok (i, len)) {S' : ceS} (h : ce_ldc own pc i len lo st hp = some S')
    (k : ceGo p l e R s m args below meth c Q D ρ B H0 nL cn cz S') : ceGo p l e R s m args below meth c Q D ρ B H0 nL cn cz (pc, lo, st, hp) := by
  intro H locs ls hR
  obtain ⟨hx, hb, hml, ⟨C, hC, hown⟩, hts, hK⟩ := hF
  unfold ce_ldc at h
  split at h
  · rename_i idx
    split at h
    · rename_i q hq
      split at h
      · rename_i hl
        cases h; subst hl
        have h1 : q.1 = idx := by simpa using List.find?_some hq
        have h2 := nh_rows nhIc_all (List.mem_of_find?_eq_some hq)
        unfold nh_icB at h2
        rw [hC] at h2
        have h3 := nh_wd_ok h2
        rw [h1] at h3
        have k1 := k H locs ls hR
        dsimp only at k1
        rw [List.map_cons, ce_i] at k1
        exact lv_ldc hx hb hown (hts _ h3) hd k1
      · cases h
    · cases h
  · rename_i idx
    split at h
    · rename_i q hq
      split at h
      · rename_i hl
        cases h; subst hl
        have h1 : q.1 = idx := by simpa using List.find?_some hq
        have h2 := nh_rows nhIc_all (List.mem_of_find?_eq_some hq)
        unfold nh_icB at h2
        rw [hC] at h2
        have h3 := nh_wd_ok h2
        rw [h1] at h3
        have k1 := k H locs ls hR
        dsimp only at k1
        rw [List.map_cons, ce_i] at k1
        exact lv_ldcw hx hb hown (hts _ h3) hd k1
      · cases h
    · cases h
  · rename_i idx
    split at h
    · rename_i q hq
      split at h
      · rename_i hl
        cases h; subst hl
        have h1 : q.1 = idx := by simpa using List.find?_some hq
        have h2 := nh_rows nhLc_all (List.mem_of_find?_eq_some hq)
        unfold nh_lcB at h2
        rw [hC] at h2
        have h3 := nh_wd_ok h2
        rw [h1] at h3
        have k1 := k H locs ls hR
        dsimp only at k1
        rw [List.map_cons, ce_l] at k1
        exact lv_ldc2 hx hb hown (hts _ h3) hd k1
      · cases h
    · cases h
  · cases h
/-- what is made: the new cell, its slots -/
def ce_atI (t : ArrayType) : Option (Nat × ceV) := match t with
  | .int => some (0, (0, 0))
  | .byte => some (1, (0, 0))
  | .long => some (2, (1, 0))
  | .boolean => some (3, (0, 0))
  | _ => none
def ce_def (ty : FieldType) : ceV := match ty with
  | .long => (1, 0)
  | .object _ => (3, 0)
  | .array _ => (3, 0)
  | _ => (0, 0)
def ce_new (own pc : Nat) (i : Instr) (len : Nat) (lo : List (Nat × ceV)) (st : List ceV) (hp : ceHp) : Option (ceS × Nat) := match i with
  | .new idx => match (ceNl.getD own []).find? (fun q => q.1 == idx) with
    | some q => match nhCl[q.2.1]? with
      | some r => if ce_ok hp = true ∧ len = 3 ∧ (List.range r.2.2).all (fun k => match nhFt q.2.1 k with
          | .float => false
          | .double => false
          | _ => true) = true then some ((pc + 3, lo, (2, (ce_len hp : Int)) :: st, ce_push hp (0, q.2.1, (List.range r.2.2).map (fun k => ce_def (nhFt q.2.1 k)))), r.2.2) else none
      | none => none
    | none => none
  | .newarray t => match st, ce_atI t with
    | (0, x) :: r, some q => if ce_ok hp = true ∧ len = 2 ∧ 0 ≤ (Int32.ofInt x).toInt ∧ (Int32.ofInt x).toInt ≤ 60000000 then some ((pc + 2, lo, (2, (ce_len hp : Int)) :: r, ce_push hp (1, q.1, List.replicate (Int32.ofInt x).toInt.toNat q.2)), (Int32.ofInt x).toInt.toNat) else none
    | _, _ => none
  | .anewarray idx => match st, (ceNl.getD own []).find? (fun q => q.1 == idx) with
    | (0, x) :: r, some q => if ce_ok hp = true ∧ len = 3 ∧ q.2.1 = 4 ∧ 0 ≤ (Int32.ofInt x).toInt ∧ (Int32.ofInt x).toInt ≤ 60000000 then some ((pc + 3, lo, (2, (ce_len hp : Int)) :: r, ce_push hp (1, 4, List.replicate (Int32.ofInt x).toInt.toNat (3, 0))), (Int32.ofInt x).toInt.toNat) else none
    | _, _ => none
  | _ => none
theorem ce_defV (ρ : Nat → Int32) (B : Nat) (ty : FieldType) (h : (match ty with
  | .float => false
  | .double => false
  | _ => true) = true) : defaultValue ty = ce_c ρ B (ce_def ty) := by
  cases ty <;> first | rfl | cases h
theorem ce_nlk {idx : Nat} {q : Nat × Nat × Nat} {C : String} (hC : nhOw[own]? = some C) (h : (ceNl.getD own []).find? (fun q => q.1 == idx) = some q) : ∃ r, nhCl[q.2.1]? = some r ∧ Cond.classLink C idx r.1 ∈ nhTb ∧ Cond.instantiable r.1 r.2.2 ∈ nhTb ∧ Cond.initialized r.1 ∈ nhTb := by
  have h1 : q.1 = idx := by simpa using List.find?_some h
  have h2 := nh_rows ceNl_all (List.mem_of_find?_eq_some h)
  unfold ce_nlB at h2
  rw [hC] at h2
  split at h2
  · rename_i C' r z e1 e2 e3
    cases e1
    simp only [Bool.and_eq_true] at h2
    rw [← h1]
    exact ⟨r, e2, nh_wd_ok h2.1.1, nh_wd_ok h2.1.2, nh_wd_ok h2.2⟩
  · cases h2
end CE4
