theorem nk_g_rev {α : Type} : ∀ (l : List α) (i : Nat), nk_g l l.length i = l.reverse[i]?
  | [], i => by simp [nk_g]
  | x :: r, i => by
    rw [List.length_cons, nk_g_push, List.reverse_cons]
    split
    · rename_i h
      rw [h, List.getElem?_append_right (by simp)]
      simp
    · rename_i h
      rw [nk_g_rev r i]
      by_cases hi : i < r.length
      · rw [List.getElem?_append_left (by simpa using hi)]
      · rw [List.getElem?_eq_none (by simp; omega), List.getElem?_eq_none (by simp; omega)]
theorem nk_fitV_len {S : nkS} : ∀ {σ : List Nat} {ws : List nkV}, nk_fitV S σ ws = true → σ.length = ws.length
  | [], [], _ => rfl
  | j :: σ, w :: ws, h => by
    unfold nk_fitV at h
    split at h
    · split at h
      · rw [List.length_cons, List.length_cons, nk_fitV_len h]
      · cases h
    · cases h
  | [], _ :: _, h => by cases h
  | _ :: _, [], h => by cases h
theorem nk_cvR_rf : ∀ {V : nkWs} {w : Nat × Nat × Nat}, w ∈ V → nk_cvR V w.1 w.2.1 w.2.2 = true
  | [], _, h => by cases h
  | v :: r, w, h => by
    unfold nk_cvR
    rcases List.mem_cons.mp h with rfl | h
    · rw [Nat.beq_refl, Nat.ble_eq_true_of_le (Nat.le_refl _), Nat.ble_eq_true_of_le (Nat.le_refl _)]
      rfl
    · split
      · rfl
      · exact nk_cvR_rf h
theorem nk_sub_mem {V : nkWs} : ∀ {Ws : nkWs}, (∀ w ∈ Ws, w ∈ V) → nk_sub Ws V = true
  | [], _ => rfl
  | w :: r, h => by
    unfold nk_sub
    rw [nk_cvR_rf (h w List.mem_cons_self)]
    exact nk_sub_mem (fun w' hw => h w' (List.mem_cons_of_mem _ hw))
theorem nk_sub_rf (Ws : nkWs) : nk_sub Ws Ws = true := nk_sub_mem fun _ h => h
section NK42
variable {p : Program} {l : Launch} {e : Env} {R : Room} {s : State} {m : MethodId} {args : Array Value} {below : List Frame} {meth : Method} {c : Code} {Q : State → Prop}
variable {cc : ByteArray} {E : nkE} {M : nkMd} {fr lo : Nat} {Ws : nkWs} {H0 : Heap} {n0 : Nat} {ρ0 : Nat → Value} {pc : Nat} {S : nkS}
theorem nk_on_ok {o : Option nkS} {pc : Nat} {L : nkSu} (h : nk_on o pc = some L) : ∃ S', o = some S' ∧ (S', pc) ∈ L := by
  unfold nk_on at h
  split at h
  · cases h
    exact ⟨_, rfl, List.mem_cons_self⟩
  · cases h
theorem nk_step_ok (hh : nkHy p R s m args c cc E M fr lo) (hun0 : ∀ q : Nat, E.2.1.length ≤ E.2.2 q → H0[q]? = s.heap[q]?) {i : Instr} {len : Nat} (hd : decode cc pc = .ok (i, len)) {L : nkSu} (h : nk_step E.2.1 Ws M.1 M.2.1 S pc i len = some L)
    (k : ∀ q ∈ L, nkGo p l e R s m args below meth c Q E M.2.1 Ws H0 n0 ρ0 q.2 q.1) : nkGo p l e R s m args below meth c Q E M.2.1 Ws H0 n0 ρ0 pc S := by
  obtain ⟨hF, hZ, hdt, hR1, hR2⟩ := hh
  have hx := hF.1
  have hb := hF.2.1
  unfold nk_step at h
  split at h
  · obtain ⟨S', h1, h2⟩ := nk_on_ok h
    exact nk_sOp_ok hx hb hd h1 (k _ h2)
  · obtain ⟨S', h1, h2⟩ := nk_on_ok h
    exact nk_sLd_ok hx hb hd h1 (k _ h2)
  · obtain ⟨S', h1, h2⟩ := nk_on_ok h
    exact nk_sSt_ok hx hb hd h1 (k _ h2)
  · obtain ⟨S', h1, h2⟩ := nk_on_ok h
    exact nk_sInc_ok hx hb hd h1 (k _ h2)
  · obtain ⟨S', h1, h2⟩ := nk_on_ok h
    exact nk_sSk_ok hx hb hd h1 (k _ h2)
  · exact nk_sBr_ok hx hb hd h k
  · obtain ⟨S', h1, h2⟩ := nk_on_ok h
    exact nk_sGet_ok hF hd h1 (k _ h2)
  · obtain ⟨S', h1, h2⟩ := nk_on_ok h
    exact nk_sPut_ok hF hd h1 (k _ h2)
  · obtain ⟨S', h1, h2⟩ := nk_on_ok h
    exact nk_sAld_ok hF hd h1 (k _ h2)
  · obtain ⟨S', h1, h2⟩ := nk_on_ok h
    exact nk_sAst_ok hF hd h1 (k _ h2)
  · obtain ⟨S', h1, h2⟩ := nk_on_ok h
    exact nk_sLen_ok hF hd h1 (k _ h2)
  · split at h
    · rename_i S' h1
      cases h
      exact nk_sLdc_ok hF hd h1 (k _ List.mem_cons_self)
    · obtain ⟨S', h1, h2⟩ := nk_on_ok h
      exact nk_sLds_ok hF hZ hun0 hd h1 (k _ h2)
  · cases h
/-- a call -/
theorem nk_cal_ok {IT : List nkIn} (hIT : ∀ en ∈ IT, nkMetI E.2.1 en) (hh : nkHy p R s m args c cc E M fr lo) (hun0 : ∀ q : Nat, E.2.1.length ≤ E.2.2 q → H0[q]? = s.heap[q]?) {run : Nat → nhMth → nkS → Option (List nkS)}
    (hrun : ∀ (mn : Nat) (y : nhMth) (as : List Nat) (S1 : nkS) (lo0 : List (Nat × Nat)) (L : List nkS), nhMt[mn]? = some y → nk_lo0 S1 0 as = some lo0 → nk_wid S1 as ≤ y.2.2.1 → run mn y (S1.1, S1.2.1, lo0, [], S1.2.2.2.2) = some L → nkMet E.2.1 y (fr - 1) (lo - (8 + (y.2.2.1 + 11))) as S1 Ws L)
    {i : Instr} {len : Nat} (hd : decode cc pc = .ok (i, len)) {L : List nkS} (h : nk_cal E.2.1 IT run M.1 fr lo Ws S i len = some L)
    (k : ∀ S' ∈ L, nkGo p l e R s m args below meth c Q E M.2.1 Ws H0 n0 ρ0 (pc + 3) S') : nkGo p l e R s m args below meth c Q E M.2.1 Ws H0 n0 ρ0 pc S := by
  obtain ⟨hF, hZ, hdt, hR1, hR2⟩ := hh
  unfold nk_cal at h
  split at h
  · rename_i q hq
    split at h
    · rename_i mn hmn
      split at h
      · rename_i y hy
        rw [nk_nth_eq] at hy
        split at h
        · rename_i hc
          simp only [Bool.and_eq_true] at hc
          obtain ⟨c1, c2, c3, c4, c5⟩ := hc
          have c1 := Nat.eq_of_beq_eq_true c1
          have c2 := nk_bq_ok c2
          have c3 := Nat.le_of_ble_eq_true c3
          subst c1
          intro hn ρ H locs ls st hρ hR
          have hd' : decode cc pc = .ok (cond q.2 (.invokestatic q.1) (.invokevirtual q.1), 3) := by
            unfold nk_inv at hq
            split at hq
            · cases hq; exact hd
            · cases hq; exact hd
            · cases hq
          generalize hna : y.2.2.2.2.2 + cond q.2 0 1 = na at *
          obtain ⟨r1, -⟩ := nk_r8_ok (E := E) hR.1.1 c5
          have hst : st = (S.2.2.2.1.take na).map ρ ++ (S.2.2.2.1.drop na).map ρ := by
            rw [← List.map_append, List.take_append_drop]
            exact hR.2.2.1.1
          have hrest : nkSt S.1 ρ (S.2.2.2.1.drop na) ((S.2.2.2.1.drop na).map ρ) := ⟨rfl, fun i hi => hR.2.2.1.2 i (List.mem_of_mem_drop hi)⟩
          have hlt : ∀ j ∈ S.2.2.2.1.take na, j < S.1 := fun j hj => hR.2.2.1.2 j (List.mem_of_mem_take hj)
          have hlen : (S.2.2.2.1.take na).length = na := by rw [List.length_take]; omega
          have hun : ∀ q : Nat, E.2.1.length ≤ E.2.2 q → H[q]? = s.heap[q]? := fun q hq => (hR.2.2.2.2.1 q hq).trans (hun0 q hq)
          have hrecv : q.2 = false → ∃ (a : Nat) (as' : List Value) (ci : Nat) (r : vw_C) (N : Nat) (V : Nat → Value), ((S.2.2.2.1.take na).map ρ).reverse = .ref a :: as' ∧ nhCl[ci]? = some r ∧ r.1 = y.1.cls ∧ t_OB a (E.1.1 ci) N (E.1.2.1 ci) H V := fun hs => by
            rw [hs] at c4 hna
            have hna : y.2.2.2.2.2 + 1 = na := hna
            rw [hna] at c4
            exact nk_recv_ok hy hR.1.1 hR.1.2.2.2.2 (by simpa using c4)
          rw [hst]
          have hrr : (S.2.2.2.1.take na).map ρ = (((S.2.2.2.1.take na).map ρ).reverse).reverse := (List.reverse_reverse _).symm
          rw [hrr]
          split at h
          · obtain ⟨en, hen1, hen2, hen3⟩ := nk_pick_ok h
            obtain ⟨hM, hM2, hM3, hM4⟩ := hIT en hen1
            unfold nk_one at hen3
            split at hen3
            · rename_i hc2
              simp only [Bool.and_eq_true] at hc2
              obtain ⟨d1, d2, d3, d4⟩ := hc2
              have d1 := nk_blt d1
              have d2 := Nat.le_of_ble_eq_true d2
              have d3 := Nat.eq_of_beq_eq_true d3
              split at hen3
              · rename_i σ hσ
                split at hen3
                · rename_i hc3
                  simp only [Bool.and_eq_true] at hc3
                  obtain ⟨f1, f2, f3⟩ := hc3
                  have f1 := Nat.eq_of_beq_eq_true f1
                  cases hen3
                  obtain ⟨b1, b2⟩ := nk_bMe_ok hR.1.2.1 hσ
                  obtain ⟨g1, g2⟩ := nk_fitV_ok (n := σ.1) hR.1.1 f2
                  have hT : nkT E en.2.2.2.2.1 (nk_pk σ ρ) H := by
                    refine ⟨fun i w hi => ?_, ?_, ?_, ?_, hR.1.2.2.2.2⟩
                    · rw [← f1] at hi
                      obtain ⟨j, j1, j2⟩ := g2 i w hi
                      rw [nk_pk_at j1]
                      exact j2
                    · rw [← f1]
                      exact b2 σ (nkSX.rf _)
                    · rw [← f1]
                      exact nk_diB_ok hR.1.1 hR.1.2.2.1 f3
                    · rw [hM3]
                      exact fun q hq => by cases hq
                  have hvals : (List.range en.2.2.2.1).map (nk_pk σ ρ) = ((S.2.2.2.1.take na).map ρ).reverse := by
                    rw [← List.map_reverse]
                    apply List.ext_getElem?
                    intro i
                    rw [List.getElem?_map, List.getElem?_map, ← nk_g_rev, d3]
                    by_cases hi : i < en.2.2.2.1
                    · rw [List.getElem?_range hi]
                      obtain ⟨v, hv⟩ := nk_g_some (l := S.2.2.2.1.take na) (n := en.2.2.2.1) (by omega) hi
                      rw [hv]
                      show some _ = some _
                      rw [nk_pk_at (b1 _ _ hv)]
                    · rw [List.getElem?_eq_none (by simp; omega)]
                      cases hg : nk_g (S.2.2.2.1.take na) en.2.2.2.1 i with
                      | none => rfl
                      | some v => exact absurd (nk_g_lt hg) hi
                  refine nk_callW hF hZ hy (nk_find_ok hmn) hd' c2 (fr := en.2.1) (lo := en.2.2.1) (by omega) (by omega) (hM y (by rw [hen2]; exact hy)) hvals (by rw [List.length_reverse, List.length_map, hlen, ← hna]) hun hT hR.2.1.1 r1 hrecv (fun v F ρ' H1 locs1 hF1 hF2 hF3 hF4 hF5 hFr hl1 => ?_)
                  obtain ⟨q1, q2⟩ := hM4 F hF1
                  have hσl : σ.2.length = σ.1 := by
                    have := nk_fitV_len f2
                    rw [this, hM2, f1]
                  obtain ⟨S', a1, a2, ρ2, a3, a4, -⟩ := nk_aft_ok (np := σ.1) (σ := σ) (alt := F) hR hrest rfl hσl g1 q1 (by rw [f1]; exact q2) (by rw [f1]; exact hF3) hF4 hF5 hFr d4 hl1
                  exact k S' (nk_afts_mem hF1 a1) (Nat.le_trans hn a2) ρ2 H1 locs1 ls _ (hρ.tr hn a3) a4
                · cases hen3
              · cases hen3
            · cases hen3
          · split at h
            · rename_i hfl
              rw [Bool.and_eq_true] at hfl
              have fl1 := Nat.le_of_ble_eq_true hfl.1
              have fl2 := Nat.le_of_ble_eq_true hfl.2
              split at h
              · rename_i lo0 hlo0
                split at h
                · rename_i hw
                  have hw := Nat.le_of_ble_eq_true hw
                  split at h
                  · rename_i L' hL'
                    cases h
                    have hM := hrun mn y _ S lo0 L' hy hlo0 hw hL'
                    refine nk_callW hF hZ hy (nk_find_ok hmn) hd' c2 (by omega) (by omega) hM (by rw [List.map_reverse]) (by rw [List.length_reverse, List.length_map, hlen, ← hna]) hun hR.1 hR.2.1.1 r1 hrecv (fun v F ρ' H1 locs1 hF1 hF2 hF3 hF4 hF5 hFr hl1 => ?_)
                    refine k _ (nk_back_mem hF1) (Nat.le_trans hn hF2) ρ' H1 locs1 ls _ (hρ.tr hn hF3) ⟨hF4, ⟨hR.2.1.1, hR.2.1.2.1, hR.2.1.2.2.mono hF3 hF2⟩, ?_, hR.2.2.2.then hFr (nk_sub_rf Ws) hl1⟩
                    have hr2 := nkSt.mono hF3 hF2 hrest
                    show nkSt F.1 ρ' (F.2.2.2.1 ++ _) _
                    unfold nkRt at hF5
                    split at hF5
                    · rename_i hst2
                      rw [hst2, hF5]
                      exact hr2
                    · rename_i r hst2
                      rw [hst2, hF5.2]
                      exact hr2.cons hF5.1
                    · exact hF5.elim
                  · cases h
                · cases h
              · cases h
            · cases h
        · cases h
      · cases h
    · split at h
      · rename_i hfl
        rw [Bool.and_eq_true, Bool.and_eq_true] at hfl
        have fl0 := Nat.eq_of_beq_eq_true hfl.1
        have fl1 := Nat.le_of_ble_eq_true hfl.2.1
        have fl2 := Nat.le_of_ble_eq_true hfl.2.2
        subst fl0
        split at h
        · rename_i S' hS'
          cases h
          exact nk_sNat_ok hF (by rw [hR1]; exact fl1) (by rw [hR2]; exact fl2) hd hS' (k _ List.mem_cons_self)
        · split at h
          · rename_i S' hS'
            cases h
            exact nk_sStr_ok hF hZ hun0 hR1 hR2 hd hS' (k _ List.mem_cons_self)
          · cases h
      · cases h
  · cases h
end NK42
