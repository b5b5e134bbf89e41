/-! stores, iinc, the stack's own moves -/
theorem nh_lvh {ρ : List Value} {lo : List (Nat × Nat)} {ls : Array Slot} {nL : Nat} (h1 : ls.size = nL) (h2 : lv_wf ls) (h3 : nhLo ρ lo ls) : lv_has ls nL (lo.filterMap (fun q => (ρ[q.2]?).map (fun x => (q.1, x)))) := by
  refine ⟨h1, h2, fun q hq => ?_⟩
  obtain ⟨r, hr, e⟩ := List.mem_filterMap.mp hq
  obtain ⟨x, g1, g2⟩ := h3 r hr
  rw [g1] at e
  cases e
  exact g2
/-- which locals stay when slot n is written (two slots: w) -/
def nh_keep (vs : List nhV) (n : Nat) (w : Bool) (q : Nat × Nat) : Bool := !(q.1 == n) && !(w && q.1 == n + 1) && (!(q.1 + 1 == n) || (match vs[q.2]? with
  | some v => nh_cat v == 0 || nh_cat v == 2
  | none => false))
def nh_w (t : Nat) : Nat := if t = 1 then 1 else 0
def nh_stI (i : Instr) (len : Nat) : Option (Nat × Nat) := match i with
  | .istore n => if len = 2 then some (n, 0) else none
  | .istore_n n => if len = 1 then some (n, 0) else none
  | .lstore n => if len = 2 then some (n, 1) else none
  | .lstore_n n => if len = 1 then some (n, 1) else none
  | .astore n => if len = 2 then some (n, 2) else none
  | .astore_n n => if len = 1 then some (n, 2) else none
  | _ => none
def nh_sSt (S : nhS) (nL : Nat) (i : Instr) (len : Nat) : Option nhS := match nh_stI i len with
  | some (n, t) => match S.2.2.1 with
    | j :: rest => match S.1[j]? with
      | some v => if nh_cat v = t ∧ n + nh_w t < nL then some (S.1, (n, j) :: S.2.1.filter (nh_keep S.1 n (t == 1)), rest, S.2.2.2) else none
      | none => none
    | _ => none
  | none => none
theorem nh_cat1 {Γ : Nat → Int} {g : Nat → Int32} {v : nhV} {x : Value} (h : nhOk Γ g v x) (hc : nh_cat v = 0 ∨ nh_cat v = 2) : x.category = 1 := by
  have h1 := nh_cat_ok h
  rcases hc with hc | hc
  · obtain ⟨a, rfl⟩ := h1.1 hc
    rfl
  · rcases h1.2.2 hc with rfl | ⟨a, rfl⟩ <;> rfl
section NH9
variable {p : Program} {l : Launch} {e : Env} {R : Room} {s : State} {m : MethodId} {args : Array Value} {below : List Frame} {meth : Method} {c : Code} {Q : State → Prop}
variable {cc : ByteArray} {E : nhE} {nL : Nat} {pu : Bool} {pc : Nat} {S : nhS} {ρ0 : List Value}
theorem nh_stW {H : Heap} {locs : List Loc} {ls : Array Slot} {rest : List Value} {cells slots : Nat} (hx : p.tables.exec = Jvm.exec) (hb : c.code = cc) {i : Instr} {len n t : Nat} (h : nh_stI i len = some (n, t)) (hd : decode cc pc = .ok (i, len)) {x : Value} {lv : List (Nat × Value)} (hl : lv_has ls nL lv) (hn : n + nh_w t < nL)
    (h0 : t = 0 → ∃ a : Int32, x = .int a) (h1 : t = 1 → ∃ a : Int64, x = .long a) (h2 : t = 2 → x = .null ∨ ∃ a : Nat, x = .ref a)
    (k : ∀ ls' : Array Slot, lv_has ls' nL ((n, x) :: lv.filter (fun q => !(q.1 == n) && (!(t == 1 && q.1 == n + 1) && !(q.1 + 1 == n && q.2.category == 2)))) → W p l e R s m args below meth c H locs cells slots Q (F0 m (pc + len) ls' rest)) : W p l e R s m args below meth c H locs cells slots Q (F0 m pc ls (x :: rest)) := by
  unfold nh_stI at h
  split at h
  · split at h
    · rename_i q; cases h; subst q
      obtain ⟨a, rfl⟩ := h0 rfl
      exact lv_istore hx hb hd hl (by simpa [nh_w] using hn) rfl (fun ls' h => k ls' (by simpa using h))
    · cases h
  · split at h
    · rename_i q; cases h; subst q
      obtain ⟨a, rfl⟩ := h0 rfl
      exact lv_istore_n hx hb hd rfl hl (by simpa [nh_w] using hn) rfl (fun ls' h => k ls' (by simpa using h))
    · cases h
  · split at h
    · rename_i q; cases h; subst q
      obtain ⟨a, rfl⟩ := h1 rfl
      exact lv_lstore hx hb hd hl (by simpa [nh_w] using hn) rfl (fun ls' h => k ls' (by simpa using h))
    · cases h
  · split at h
    · rename_i q; cases h; subst q
      obtain ⟨a, rfl⟩ := h1 rfl
      exact lv_lstore_n hx hb hd rfl hl (by simpa [nh_w] using hn) rfl (fun ls' h => k ls' (by simpa using h))
    · cases h
  · split at h
    · rename_i q; cases h; subst q
      rcases h2 rfl with rfl | ⟨a, rfl⟩
      · exact lv_astoreN hx hb hd hl (by simpa [nh_w] using hn) rfl (fun ls' h => k ls' (by simpa using h))
      · exact lv_astore hx hb hd hl (by simpa [nh_w] using hn) rfl (fun ls' h => k ls' (by simpa using h))
    · cases h
  · split at h
    · rename_i q; cases h; subst q
      rcases h2 rfl with rfl | ⟨a, rfl⟩
      · exact lv_astore_nN hx hb hd rfl hl (by simpa [nh_w] using hn) rfl (fun ls' h => k ls' (by simpa using h))
      · exact lv_astore_n hx hb hd rfl hl (by simpa [nh_w] using hn) rfl (fun ls' h => k ls' (by simpa using h))
    · cases h
  · cases h
/-- the locals behind a write -/
theorem nh_lo_put {Γ : Nat → Int} {g : Nat → Int32} {vs : List nhV} {ρ : List Value} {lo : List (Nat × Nat)} {ls' : Array Slot} {n j : Nat} {w : Bool} {x : Value} (hA : nhAll Γ g vs ρ) {lv : List (Nat × Value)} (hlv : lv = lo.filterMap (fun q => (ρ[q.2]?).map (fun x => (q.1, x)))) (hL : ∀ q ∈ lo, ∃ x, ρ[q.2]? = some x)
    (h : lv_has ls' nL ((n, x) :: lv.filter (fun q => !(q.1 == n) && (!(w && q.1 == n + 1) && !(q.1 + 1 == n && q.2.category == 2))))) (hj : ρ[j]? = some x) : ls'.size = nL ∧ lv_wf ls' ∧ nhLo ρ ((n, j) :: lo.filter (nh_keep vs n w)) ls' := by
  refine ⟨h.1, h.2.1, fun q hq => ?_⟩
  rcases List.mem_cons.mp hq with rfl | hq
  · exact ⟨x, hj, h.2.2 (n, x) List.mem_cons_self⟩
  · obtain ⟨h1, h2⟩ := List.mem_filter.mp hq
    obtain ⟨y, hy⟩ := hL q h1
    refine ⟨y, hy, h.2.2 (q.1, y) (List.mem_cons_of_mem _ (List.mem_filter.mpr ⟨?_, ?_⟩))⟩
    · rw [hlv]
      exact List.mem_filterMap.mpr ⟨q, h1, by rw [hy]; rfl⟩
    · unfold nh_keep at h2
      simp only [Bool.and_eq_true, Bool.or_eq_true, Bool.not_eq_true', beq_eq_false_iff_ne, ne_eq] at h2 ⊢
      refine ⟨h2.1.1, h2.1.2, ?_⟩
      rcases h2.2 with h3 | h3
      · simp [h3]
      · split at h3
        · rename_i v hv
          obtain ⟨y', g1, g2⟩ := hA.2 _ v hv
          rw [hy] at g1; cases g1
          have := nh_cat1 g2 (by simpa using h3)
          simp [this]
        · cases h3
theorem nh_sSt_ok (hx : p.tables.exec = Jvm.exec) (hb : c.code = cc) {i : Instr} {len : Nat} (hd : decode cc pc = .ok (i, len)) {S' : nhS} (h : nh_sSt S nL i len = some S')
    (k : nhGo p l e R s m args below meth c Q E nL pu (pc + len) S' ρ0) : nhGo p l e R s m args below meth c Q E nL pu pc S ρ0 := by
  intro ρ H locs ls st hρ hR
  unfold nh_sSt at h
  split at h
  · rename_i n t hi
    split at h
    · rename_i j rest hst
      split at h
      · rename_i v hv
        split at h
        · rename_i hc
          cases h
          have hs := hR.2.2.1
          rw [hst] at hs
          obtain ⟨x, st1, rfl, hj, hs1⟩ := hs.inv1
          obtain ⟨x', g1, g2⟩ := hR.1.2 j v hv
          rw [hj] at g1; cases g1
          have hcat := nh_cat_ok g2
          rw [hc.1] at hcat
          obtain ⟨h1, ⟨h2, h3, h4⟩, h5, h6⟩ := hR
          refine nh_stW hx hb hi hd (nh_lvh h2 h3 h4) hc.2 hcat.1 hcat.2.1 hcat.2.2 (fun ls' hl' => k ρ H locs ls' st1 hρ ⟨h1, ?_, hs1, h6⟩)
          exact nh_lo_put (w := (t == 1)) h1 rfl (fun q hq => (h4 q hq).imp (fun x hx => hx.1)) hl' hj
        · cases h
      · cases h
    · cases h
  · cases h
/-- iinc -/
def nh_sInc (S : nhS) (nL : Nat) (i : Instr) (len : Nat) : Option nhS := match i with
  | .iinc n k => match nh_find S.2.1 n with
    | some j => match S.1[j]? with
      | some v => match nh_iv v with
        | some q => if len = 3 ∧ n < nL ∧ -2147483648 ≤ k ∧ k ≤ 2147483647 then (match nh_b .iadd q.1 q.2 k k with
          | some w => some (S.1 ++ [w], (n, S.1.length) :: S.2.1.filter (nh_keep S.1 n false), S.2.2.1, S.2.2.2.1, (if -2147483648 ≤ q.1 + k ∧ q.2 + k ≤ 2147483647 then nh_tc [(S.1.length, j, k), (j, S.1.length, -k)] S.2.2.2.2.1 else []) ++ S.2.2.2.2.1, S.2.2.2.2.2)
          | none => none) else none
        | none => none
      | none => none
    | none => none
  | _ => none
theorem nh_sInc_ok (hx : p.tables.exec = Jvm.exec) (hb : c.code = cc) {i : Instr} {len : Nat} (hd : decode cc pc = .ok (i, len)) {S' : nhS} (h : nh_sInc S nL i len = some S')
    (k : nhGo p l e R s m args below meth c Q E nL pu (pc + len) S' ρ0) : nhGo p l e R s m args below meth c Q E nL pu pc S ρ0 := by
  intro ρ H locs ls st hρ hR
  unfold nh_sInc at h
  split at h
  · rename_i n kk
    split at h
    · rename_i j hj
      split at h
      · rename_i v hv
        split at h
        · rename_i q hq
          split at h
          · rename_i hl
            obtain ⟨rfl, hn, hk1, hk2⟩ := hl
            split at h
            · rename_i w hw
              cases h
              obtain ⟨x, h1, h2⟩ := hR.2.1.2.2 _ (nh_find_ok hj)
              dsimp only at h1 h2
              obtain ⟨x', g1, g2⟩ := hR.1.2 j v hv
              rw [h1] at g1; cases g1
              obtain ⟨a, rfl, a1, a2⟩ := nh_iv_ok hq g2
              have ek : (Int32.ofInt kk).toInt = kk := fb_ofI (by omega) (by omega)
              obtain ⟨z, hz1, hz2⟩ := nh_b_ok (Γ := E.2.2.1) (g := E.2.2.2) (y := Int32.ofInt kk) hw a1 a2 (by omega) (by omega)
              cases hz1
              obtain ⟨hA, ⟨hL1, hL2, hL3⟩, hS1, hM, hD, hC, hH⟩ := hR
              have hlv := nh_lvh hL1 hL2 hL3
              have hmem : (n, Value.int a) ∈ S.2.1.filterMap (fun q => (ρ[q.2]?).map (fun x => (q.1, x))) := List.mem_filterMap.mpr ⟨(n, j), nh_find_ok hj, by dsimp only; rw [h1]; rfl⟩
              obtain ⟨kx, hkx⟩ := List.getElem?_of_mem hmem
              refine lv_iinc hx hb hd hlv hkx rfl hn rfl (fun ls' hl' => ?_)
              have hX := nhX.push ρ (.int (a + Int32.ofInt kk))
              have hnew : (ρ ++ [Value.int (a + Int32.ofInt kk)])[S.1.length]? = some (.int (a + Int32.ofInt kk)) := by rw [← hA.1]; exact nhX.last ρ _
              refine k (ρ ++ [.int (a + Int32.ofInt kk)]) H locs ls' st (hρ.tr hX) ⟨hA.push hz2, ?_, nhSt.mono hX hS1, hM.mono hX, ?_, hC.mono hX, hH⟩
              · have h9 := nh_lo_put (nL := nL) (w := false) (j := S.1.length) (ρ := ρ ++ [.int (a + Int32.ofInt kk)]) (vs := S.1 ++ [w]) (n := n) (lo := S.2.1) (hA.push hz2) rfl (fun q hq => by
                  obtain ⟨y, hy, -⟩ := hL3 q hq
                  exact ⟨y, hX _ _ hy⟩) (x := .int (a + Int32.ofInt kk)) (ls' := ls') (by
                  refine ⟨hl'.1, hl'.2.1, fun q hq => hl'.2.2 q ?_⟩
                  rcases List.mem_cons.mp hq with rfl | hq
                  · exact List.mem_cons_self
                  · refine List.mem_cons_of_mem _ ?_
                    obtain ⟨m1, m2⟩ := List.mem_filter.mp hq
                    refine List.mem_filter.mpr ⟨?_, by simpa using m2⟩
                    obtain ⟨r, hr, er⟩ := List.mem_filterMap.mp m1
                    obtain ⟨y, hy, -⟩ := hL3 r hr
                    rw [hX _ _ hy] at er
                    cases er
                    exact List.mem_filterMap.mpr ⟨r, hr, by rw [hy]; rfl⟩) hnew
                refine ⟨h9.1, h9.2.1, fun q hq => h9.2.2 q ?_⟩
                rcases List.mem_cons.mp hq with rfl | hq
                · exact List.mem_cons_self
                · obtain ⟨m1, m2⟩ := List.mem_filter.mp hq
                  refine List.mem_cons_of_mem _ (List.mem_filter.mpr ⟨m1, ?_⟩)
                  obtain ⟨y, hy, -⟩ := hL3 q m1
                  have hlt : q.2 < S.1.length := by rw [← hA.1]; exact (List.getElem?_eq_some_iff.mp hy).1
                  unfold nh_keep at m2 ⊢
                  rw [List.getElem?_append_left hlt]
                  exact m2
              · intro d hd'
                rcases List.mem_append.mp hd' with hd' | hd'
                · split at hd'
                  · rename_i hov
                    have es := fb_addI (x := a) (y := Int32.ofInt kk) (by omega) (by omega)
                    refine nh_tc_ok (fun d hd => ?_) (hD.mono hX) d hd'
                    simp only [List.mem_cons, List.not_mem_nil, or_false] at hd
                    rcases hd with rfl | rfl
                    · exact ⟨_, _, hnew, hX _ _ h1, by dsimp only; omega⟩
                    · exact ⟨_, _, hX _ _ h1, hnew, by dsimp only; omega⟩
                  · cases hd'
                · exact hD.mono hX d hd'
            · cases h
          · cases h
        · cases h
      · cases h
    · cases h
  · cases h
/-- the stack's own moves -/
def nh_sSk (S : nhS) (i : Instr) (len : Nat) : Option nhS := if len = 1 then (match i with
  | .dup => match S.2.2.1 with
    | x :: rest => match S.1[x]? with
      | some v => if nh_cat v = 0 ∨ nh_cat v = 2 then some (S.1, S.2.1, x :: x :: rest, S.2.2.2) else none
      | none => none
    | _ => none
  | .pop => match S.2.2.1 with
    | x :: rest => match S.1[x]? with
      | some v => if nh_cat v = 0 ∨ nh_cat v = 2 then some (S.1, S.2.1, rest, S.2.2.2) else none
      | none => none
    | _ => none
  | .dup2 => match S.2.2.1 with
    | x :: y :: rest => match S.1[x]?, S.1[y]? with
      | some v, some w => if (nh_cat v = 0 ∨ nh_cat v = 2) ∧ (nh_cat w = 0 ∨ nh_cat w = 2) then some (S.1, S.2.1, x :: y :: x :: y :: rest, S.2.2.2) else none
      | _, _ => none
    | _ => none
  | _ => none) else none
theorem nh_sSk_ok (hx : p.tables.exec = Jvm.exec) (hb : c.code = cc) {i : Instr} {len : Nat} (hd : decode cc pc = .ok (i, len)) {S' : nhS} (h : nh_sSk S i len = some S')
    (k : nhGo p l e R s m args below meth c Q E nL pu (pc + len) S' ρ0) : nhGo p l e R s m args below meth c Q E nL pu pc S ρ0 := by
  intro ρ H locs ls st hρ hR
  have hs := hR.2.2.1
  unfold nh_sSk at h
  split at h
  · rename_i hl
    subst hl
    split at h
    · split at h
      · rename_i x rest hst
        rw [hst] at hs
        obtain ⟨vx, st1, rfl, hx1, hs1⟩ := hs.inv1
        split at h
        · rename_i v hv
          split at h
          · rename_i hc
            cases h
            obtain ⟨x', g1, g2⟩ := hR.1.2 x v hv
            rw [hx1] at g1; cases g1
            exact lv_dup hx hb hd (nh_cat1 g2 hc) (k ρ H locs ls _ hρ (nh_stack_ok hR ⟨hx1, hx1, hs1⟩))
          · cases h
        · cases h
      · cases h
    · split at h
      · rename_i x rest hst
        rw [hst] at hs
        obtain ⟨vx, st1, rfl, hx1, hs1⟩ := hs.inv1
        split at h
        · rename_i v hv
          split at h
          · rename_i hc
            cases h
            obtain ⟨x', g1, g2⟩ := hR.1.2 x v hv
            rw [hx1] at g1; cases g1
            exact lv_pop hx hb hd (nh_cat1 g2 hc) (k ρ H locs ls _ hρ (nh_stack_ok hR hs1))
          · cases h
        · cases h
      · cases h
    · split at h
      · rename_i x y rest hst
        rw [hst] at hs
        obtain ⟨vx, st1, rfl, hx1, hs1⟩ := hs.inv1
        obtain ⟨vy, st2, rfl, hy1, hs2⟩ := hs1.inv1
        split at h
        · rename_i v w hv hw
          split at h
          · rename_i hc
            cases h
            obtain ⟨x', g1, g2⟩ := hR.1.2 x v hv
            rw [hx1] at g1; cases g1
            obtain ⟨y', g3, g4⟩ := hR.1.2 y w hw
            rw [hy1] at g3; cases g3
            exact lv_dup2_11 hx hb hd (nh_cat1 g2 hc.1) (nh_cat1 g4 hc.2) (k ρ H locs ls _ hρ (nh_stack_ok hR ⟨hx1, hy1, hx1, hy1, hs2⟩))
          · cases h
        · cases h
      · cases h
    · cases h
  · cases h
end NH9
