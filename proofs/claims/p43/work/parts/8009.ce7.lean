/-! known values: calls, returns, the run -/
def ce_cl (own : Nat) (i : Instr) (st : List ceV) (hp : ceHp) : Option (Nat × List ceV × List ceV) := match i with
  | .invokevirtual idx => match nh_find (nhLn.getD own []) idx with
    | some mn => match nhMt[mn]? with
      | some y => if mn < 1000 ∧ y.2.2.2.2.1 = false ∧ y.2.2.1 ≤ 41 ∧ y.2.2.2.2.2 + 1 ≤ st.length ∧ ce_sum (st.drop (y.2.2.2.2.2 + 1)) ≤ 8 then (match (st.take (y.2.2.2.2.2 + 1)).reverse with
        | (2, o) :: as => match ce_get hp o.toNat with
          | some k => if k.1 = 0 ∧ (nhCl[k.2.1]?).map (fun r => r.1) = some y.1.cls then some (mn, (2, o) :: as, st.drop (y.2.2.2.2.2 + 1)) else none
          | none => none
        | _ => none) else none
      | none => none
    | none => none
  | .invokestatic idx => match nh_find (nhLn.getD own []) idx with
    | some mn => match nhMt[mn]? with
      | some y => if mn < 1000 ∧ y.2.2.2.2.1 = true ∧ y.2.2.1 ≤ 41 ∧ y.2.2.2.2.2 ≤ st.length ∧ ce_sum (st.drop y.2.2.2.2.2) ≤ 8 then some (mn, (st.take y.2.2.2.2.2).reverse, st.drop y.2.2.2.2.2) else none
      | none => none
    | none => none
  | .invokespecial idx => match (ceCi.getD own []).find? (fun q => q.1 == idx) with
    | some q => match ceCt[q.2.1]? with
      | some y => if y.2.2.1 ≤ 41 ∧ y.2.2.2.2.2 + 1 ≤ st.length ∧ ce_sum (st.drop (y.2.2.2.2.2 + 1)) ≤ 8 then (match (st.take (y.2.2.2.2.2 + 1)).reverse with
        | (2, o) :: as => some (1000 + q.2.1, (2, o) :: as, st.drop (y.2.2.2.2.2 + 1))
        | _ => none) else none
      | none => none
    | none => none
  | _ => none
section CE7
variable {p : Program} {l : Launch} {e : Env} {R : Room} {s : State} {m : MethodId} {args : Array Value} {below : List Frame} {meth : Method} {c : Code} {Q : State → Prop} {cc : ByteArray} {pc own : Nat} {D : nhD} {ρ : Nat → Int32} {B : Nat} {H0 : Heap} {nL cn cz : Nat} {lo : List (Nat × ceV)} {st : List ceV} {hp : ceHp}
theorem ce_after {H : Heap} {locs : List Loc} {ls : Array Slot} {st0 : List Value} {rest : List ceV} {r : Option ceV} {hp' : ceHp} {mc ms : Nat} {a : Array Value} (hR : ceRel D ρ B H0 nL lo hp H locs ls) (hr : va_Run p l e R s m args below meth c H locs cn cz mc ms (F0 m pc ls st0) (rest.map (ce_c ρ B)) (ceQc D ρ B H0 r hp' a) (fun a => B ≤ a))
    (k : ceGo p l e R s m args below meth c Q D ρ B H0 nL (cn + mc) (cz + ms) (pc + 3, lo, r.toList ++ rest, hp')) : W p l e R s m args below meth c H locs cn cz Q (F0 m pc ls st0) := by
  intro T hT X
  obtain ⟨v, st₀, t, T', L, h0, X', hL, e1, e2, ⟨hv, hh⟩, st⟩ := hr T hT X
  have hv' : v = r.map (ce_c ρ B) := Outcome.returned.inj hv
  subst hv'
  obtain ⟨t2, a1, b1⟩ := k t.heap (locs ++ L) ls ⟨hR.1, hR.2.1, hR.2.2.1, hh, fun q hq => by
    rcases List.mem_append.mp hq with h | h
    · exact hR.2.2.2.2 q h
    · exact hL q h⟩ T' e1 X'
  refine ⟨t2, st t2 ?_, b1⟩
  have e3 : (r.toList ++ rest).map (ce_c ρ B) = (r.map (ce_c ρ B)).toList ++ rest.map (ce_c ρ B) := by
    rw [List.map_append]
    cases r <;> rfl
  dsimp only at a1
  rw [e3] at a1
  exact a1
theorem ce_rev {n : Nat} {as : List ceV} (h : (st.take n).reverse = as) : st.map (ce_c ρ B) = (as.map (ce_c ρ B)).reverse ++ (st.drop n).map (ce_c ρ B) := by
  rw [← h, List.map_reverse, List.reverse_reverse, ← List.map_append, List.take_append_drop]
theorem ce_cl_ok (hF : nhFx p c s m args cc nL own D) (hNs : ceNs s) {d C Z : Nat} (hRm : R = ceRm (d + 1) C Z) {i : Instr} {mn : Nat} {as rest : List ceV} (h : ce_cl own i st hp = some (mn, as, rest)) (hd : decode cc pc = .ok (i, 3)) {y : nhMth} (hy : ce_m mn = some y) {r : Option ceV} {hp' : ceHp} {mc ms : Nat} (hM : ceMet y d as hp r hp' mc ms) (h1 : cn + mc ≤ C) (h2 : cz + ms ≤ Z)
    (k : ceGo p l e R s m args below meth c Q D ρ B H0 nL (cn + mc) (cz + ms) (pc + 3, lo, r.toList ++ rest, hp')) : ceGo p l e R s m args below meth c Q D ρ B H0 nL cn cz (pc, lo, st, hp) := by
  intro H locs ls hR
  obtain ⟨hx, hb, hml, ⟨C', hC, hown⟩, hts, hK⟩ := hF
  have hPre : ∀ U : State, U.heap = H → s.WarmedH U.vm → cePc D ρ B H0 as hp (as.map (ce_c ρ B)).toArray U := fun U hU hW => ⟨rfl, by rw [hU]; exact hR.2.2.2.1, hK.moved hW.alike, hNs.warm hW⟩
  have hfr : ∀ maxL : Nat, maxL ≤ 41 → (ceRm d mc ms).frames + 1 ≤ R.frames ∧ 8 + (maxL + 11) + (ceRm d mc ms).locals ≤ R.locals := fun maxL hm => by
    rw [hRm]
    exact ⟨Nat.le_refl _, by show 8 + (maxL + 11) + 60 * d ≤ 60 * (d + 1); omega⟩
  have hcz : cn + mc ≤ R.cells ∧ cz + ms ≤ R.slots := by rw [hRm]; exact ⟨h1, h2⟩
  have hMM := hM l D ρ B H0
  unfold ce_cl at h
  split at h
  · rename_i idx
    split at h
    · rename_i mn' hmn
      split at h
      · rename_i y' hy'
        split at h
        · rename_i hc
          obtain ⟨c0, c1, c2, c3, c4⟩ := hc
          split at h
          · rename_i o as' has
            split at h
            · rename_i kk hkk
              split at h
              · rename_i hc2
                cases h
                unfold ce_m at hy
                rw [if_pos c0, hy'] at hy
                cases hy
                obtain ⟨m1, m2, m3, m4, m5, m6⟩ := nh_mt_ok hy'
                obtain ⟨n1, n2⟩ := m4 c1
                have hlink := nh_lk_ok hC (nh_find_ok hmn) hy'
                dsimp only at hlink
                obtain ⟨t, ci, fs⟩ := kk
                dsimp only at hc2
                obtain ⟨rfl, hc2⟩ := hc2
                obtain ⟨r0, hr0, hrn⟩ := Option.map_eq_some_iff.mp hc2
                obtain ⟨cell, q1, q2, q3, q4⟩ : t_OB (B + o.toNat) (D.1 ci) fs.length (D.2.1 ci) H (fun k => ce_c ρ B (fs.getD k (3, 0))) := hR.2.2.2.1.2.2 _ _ hkk
                have hB := callB_of (R := R) (mc := mc) (ms := ms) (rm := ceRm d mc ms) y.2.2.2.2.2 hts (nhGoodIn m1) rfl rfl rfl (hts _ m2) (hts _ hlink) m5 (hfr _ c2)
                have hW8 : (((st.drop (y.2.2.2.2.2 + 1)).map (ce_c ρ B)).map fun v => v.category).sum ≤ 8 := by rw [ce_sum_ok]; exact c4
                have hlen : as'.length = y.2.2.2.2.2 := by
                  have := congrArg List.length has
                  simp at this
                  omega
                refine ce_after (rest := st.drop (y.2.2.2.2.2 + 1)) (a := (((2, o) :: as').map (ce_c ρ B)).toArray) hR ?_ k
                exact va_runV (b := B + o.toNat) (As := as'.map (ce_c ρ B)) (rest := (st.drop (y.2.2.2.2.2 + 1)).map (ce_c ρ B)) ⟨hx, hb, hml, hown, hts⟩ hMM ⟨hB, hts _ n1, hts _ n2⟩ ⟨cePc_blind _ _ _ _ _ _, ⟨cell, q1, by rw [q3]; rfl, by rw [q2, ← hrn]; exact (hK.1 ci r0 hr0).2.1⟩, hPre⟩ rfl (by rw [List.length_map]; exact hlen) hR.1 (by
                  show st.map (ce_c ρ B) = _
                  rw [ce_rev has, List.map_cons, List.reverse_cons, List.append_assoc]
                  rfl) (lv_room hW8) hd hcz
              · cases h
            · cases h
          · cases h
        · cases h
      · cases h
    · cases h
  · rename_i idx
    split at h
    · rename_i mn' hmn
      split at h
      · rename_i y' hy'
        split at h
        · rename_i hc
          obtain ⟨c0, c1, c2, c3, c4⟩ := hc
          cases h
          unfold ce_m at hy
          rw [if_pos c0, hy'] at hy
          cases hy
          obtain ⟨m1, m2, m3, m4, m5, m6⟩ := nh_mt_ok hy'
          have hlink := nh_lk_ok hC (nh_find_ok hmn) hy'
          dsimp only at hlink
          have hB := callB_of (R := R) (mc := mc) (ms := ms) (rm := ceRm d mc ms) y.2.2.2.2.2 hts (nhGoodIn m1) rfl rfl rfl (hts _ m2) (hts _ hlink) m5 (hfr _ c2)
          have hW8 : (((st.drop y.2.2.2.2.2).map (ce_c ρ B)).map fun v => v.category).sum ≤ 8 := by rw [ce_sum_ok]; exact c4
          refine ce_after (rest := st.drop y.2.2.2.2.2) (a := ((st.take y.2.2.2.2.2).reverse.map (ce_c ρ B)).toArray) hR ?_ k
          exact va_runS (As := (st.take y.2.2.2.2.2).reverse.map (ce_c ρ B)) (rest := (st.drop y.2.2.2.2.2).map (ce_c ρ B)) ⟨hx, hb, hml, hown, hts⟩ hMM ⟨hB, hts _ (m3 c1)⟩ ⟨cePc_blind _ _ _ _ _ _, hPre⟩ rfl (by simp; omega) hR.1 (by
            show st.map (ce_c ρ B) = _
            exact ce_rev rfl) (lv_room hW8) hd hcz
        · cases h
      · cases h
    · cases h
  · rename_i idx
    split at h
    · rename_i q hq
      split at h
      · rename_i y' hy'
        split at h
        · rename_i hc
          obtain ⟨c2, c3, c4⟩ := hc
          split at h
          · rename_i o as' has
            cases h
            unfold ce_m at hy
            rw [if_neg (by omega), show 1000 + q.2.1 - 1000 = q.2.1 by omega, hy'] at hy
            cases hy
            obtain ⟨m1, m2, m3, ⟨m4, m5, m6⟩, m7⟩ := ce_ct_ok hy'
            have e1 : q.1 = idx := by simpa using List.find?_some hq
            have e2 := nh_rows ceCi_all (List.mem_of_find?_eq_some hq)
            unfold ce_ciB at e2
            rw [hC, hy'] at e2
            dsimp only at e2
            have hW8 : (((st.drop (y.2.2.2.2.2 + 1)).map (ce_c ρ B)).map fun v => v.category).sum ≤ 8 := by rw [ce_sum_ok]; exact c4
            have hlen : as'.length = y.2.2.2.2.2 := by
              have := congrArg List.length has
              simp at this
              omega
            have hstk : st.map (ce_c ρ B) = (as'.map (ce_c ρ B)).reverse ++ Value.ref (B + o.toNat) :: (st.drop (y.2.2.2.2.2 + 1)).map (ce_c ρ B) := by
              rw [ce_rev has, List.map_cons, List.reverse_cons, List.append_assoc]
              rfl
            refine ce_after (rest := st.drop (y.2.2.2.2.2 + 1)) (a := (((2, o) :: as').map (ce_c ρ B)).toArray) hR ?_ k
            split at e2
            · have hlink := nh_wd_ok e2
              rw [e1] at hlink
              have hB := callB_of (R := R) (mc := mc) (ms := ms) (rm := ceRm d mc ms) (bytes := y.2.1) (maxL := y.2.2.1) (ret := none) (ws := nhWs y) (ws' := nhTb) y.2.2.2.2.2 hts (nhGoodIn m1) (by unfold nhWs; rw [m5]) rfl rfl (hts _ m2) (hts _ hlink) m6 (hfr _ c2)
              exact va_runI (b := B + o.toNat) (As := as'.map (ce_c ρ B)) (rest := (st.drop (y.2.2.2.2.2 + 1)).map (ce_c ρ B)) ⟨hx, hb, hml, hown, hts⟩ hMM ⟨hB, m4, hts _ m3⟩ ⟨cePc_blind _ _ _ _ _ _, hPre⟩ rfl (by rw [List.length_map]; exact hlen) hR.1 hstk (lv_room hW8) hd hcz
            · have e3 := of_decide_eq_true e2
              have hnw := hNs.1 _ (List.mem_of_getElem? e3)
              dsimp only at hnw
              rw [e1] at hnw
              have hB := va_cnB (R := R) (args := args) (mc := mc) (ms := ms) (rm := ceRm d mc ms) (bytes := y.2.1) (maxL := y.2.2.1) (ret := none) (ws := nhWs y) (ws' := nhTb) y.2.2.2.2.2 hts (nhGoodIn m1) (by unfold nhWs; rw [m5]) rfl rfl hnw (hts _ m2) m6 (hfr _ c2)
              exact va_runIN (b := B + o.toNat) (As := as'.map (ce_c ρ B)) (rest := (st.drop (y.2.2.2.2.2 + 1)).map (ce_c ρ B)) ⟨hx, hb, hml, hown, hts⟩ hMM ⟨hB, m4, hts _ m3⟩ ⟨cePc_blind _ _ _ _ _ _, hPre⟩ rfl (by rw [List.length_map]; exact hlen) hR.1 hstk (lv_room hW8) hd hcz
          · cases h
        · cases h
      · cases h
    · cases h
  · cases h
def ce_ret (rt : Option FieldType) (i : Instr) (len : Nat) (st : List ceV) : Option (Option ceV) := if len = 1 then (match st with
  | [] => if i = .return_ ∧ rt = none then some none else none
  | [(0, x)] => if i = .ireturn ∧ (rt = some .int ∨ rt = some .boolean ∧ (x = 0 ∨ x = 1)) then some (some (0, x)) else none
  | [(t + 4, x)] => if i = .ireturn ∧ rt = some .int then some (some (t + 4, x)) else none
  | [(1, x)] => if i = .lreturn ∧ rt = some .long then some (some (1, x)) else none
  | [v] => if i = .areturn ∧ ce_ty v = 2 then (match rt with
    | some (.object _) => some (some v)
    | some (.array _) => some (some v)
    | _ => none) else none
  | _ => none) else none
theorem ce_ret_ok (hx : p.tables.exec = Jvm.exec) (hb : c.code = cc) {rt : Option FieldType} (hr : meth.sig.returnType = rt) (hlocks : meth.locks = false) {i : Instr} {len : Nat} (hd : decode cc pc = .ok (i, len)) {r : Option ceV} (h : ce_ret rt i len st = some r) :
    ceGo p l e R s m args below meth c (MQ below (ceQc D ρ B H0 r hp) args s cn cz (fun a => B ≤ a)) D ρ B H0 nL cn cz (pc, lo, st, hp) := by
  intro H locs ls hR
  have fin : ∀ (v : Option Value) (t : State), t.heap = H → v = r.map (ce_c ρ B) → ceQc D ρ B H0 r hp args s (.returned v) t := fun v t ht hv => ⟨by rw [hv], by rw [ht]; exact hR.2.2.2.1⟩
  unfold ce_ret at h
  split at h
  · rename_i hl
    subst hl
    split at h
    · split at h
      · rename_i hc
        cases h
        obtain ⟨rfl, rfl⟩ := hc
        exact W.vret hx hb hr (fun t ht _ => fin none t ht rfl) hR.2.2.2.2 hd
      · cases h
    · rename_i x
      split at h
      · rename_i hc
        cases h
        obtain ⟨rfl, hc⟩ := hc
        rcases hc with rfl | ⟨rfl, hc⟩
        · exact W.iret hx hb hr (fun t ht _ => fin _ t ht rfl) hR.2.2.2.2 hd
        · refine W.zret hx hb hr ?_ (fun t ht _ => fin _ t ht rfl) hR.2.2.2.2 hd
          rcases hc with rfl | rfl <;> rfl
      · cases h
    · rename_i t x
      split at h
      · rename_i hc
        cases h
        obtain ⟨rfl, rfl⟩ := hc
        exact W.iret hx hb hr (fun t ht _ => fin _ t ht rfl) hR.2.2.2.2 hd
      · cases h
    · rename_i x
      split at h
      · rename_i hc
        cases h
        obtain ⟨rfl, rfl⟩ := hc
        exact W.lret hx hb hr (fun t ht _ => fin _ t ht rfl) hR.2.2.2.2 hd
      · cases h
    · rename_i v _ _ _
      split at h
      · rename_i hc
        obtain ⟨rfl, hc⟩ := hc
        have hv := (ce_ty_ok ρ B (v := v)).2.2 hc
        split at h
        · cases h
          exact W.aret hx hb hr (Or.inl ⟨_, rfl⟩) hv (fun t ht _ => fin _ t ht rfl) hR.2.2.2.2 hd
        · cases h
          exact W.aret hx hb hr (Or.inr ⟨_, rfl⟩) hv (fun t ht _ => fin _ t ht rfl) hR.2.2.2.2 hd
        · cases h
      · cases h
    · cases h
  · cases h
end CE7
