/-! calls -/
def nh_catS (vs : List nhV) : List Nat → Option Nat
  | [] => some 0
  | j :: r => match vs[j]?, nh_catS vs r with
    | some v, some n => if nh_cat v = 0 ∨ nh_cat v = 2 then some (n + 1) else if nh_cat v = 1 then some (n + 2) else none
    | _, _ => none
theorem nh_catS_ok {Γ : Nat → Int} {g : Nat → Int32} {vs : List nhV} {ρ : List Value} (hA : nhAll Γ g vs ρ) : ∀ {is : List Nat} {st : List Value} {n : Nat}, nh_catS vs is = some n → nhSt ρ is st → (st.map fun v => v.category).sum ≤ n
  | [], [], n, h, _ => by simp
  | [], _ :: _, _, _, h => h.elim
  | _ :: _, [], _, _, h => h.elim
  | j :: r, x :: st, n, h, hs => by
    unfold nh_catS at h
    split at h
    · rename_i v k hv hk
      obtain ⟨x', g1, g2⟩ := hA.2 j v hv
      rw [hs.1] at g1; cases g1
      have ih := nh_catS_ok hA hk hs.2
      simp only [List.map_cons, List.sum_cons]
      split at h
      · rename_i hc
        cases h
        rw [nh_cat1 g2 hc]
        omega
      · split at h
        · rename_i hc
          cases h
          obtain ⟨a, rfl⟩ := (nh_cat_ok g2).2.1 hc
          have : (Value.long a).category = 2 := rfl
          omega
        · cases h
    · cases h
theorem nhSt.app {ρ : List Value} : ∀ {a b : List Nat} {st : List Value}, nhSt ρ (a ++ b) st → ∃ s1 s2, st = s1 ++ s2 ∧ nhSt ρ a s1 ∧ nhSt ρ b s2
  | [], b, st, h => ⟨[], st, rfl, trivial, h⟩
  | i :: a, b, st, h => by
    obtain ⟨x, xs, rfl, h1, h2⟩ := nhSt.inv1 (i := i) (is := a ++ b) h
    obtain ⟨s1, s2, rfl, h3, h4⟩ := nhSt.app h2
    exact ⟨x :: s1, s2, rfl, ⟨h1, h3⟩, h4⟩
theorem nhSt.pick {ρ : List Value} : ∀ {a : List Nat} {st : List Value}, nhSt ρ a st → nh_pick ρ a = st
  | [], [], _ => rfl
  | i :: a, x :: st, h => by
    show (ρ[i]?).getD .null :: nh_pick ρ a = x :: st
    rw [h.1, nhSt.pick h.2]
    rfl
  | [], _ :: _, h => h.elim
  | _ :: _, [], h => h.elim
section NH17
variable {p : Program} {l : Launch} {e : Env} {R : Room} {s : State} {m : MethodId} {args : Array Value} {below : List Frame} {meth : Method} {c : Code} {Q : State → Prop}
variable {cc : ByteArray} {E : nhE} {nL : Nat} {pu : Bool} {pc own : Nat} {S : nhS} {ρ0 : List Value}
/-- behind a call, by its contract -/
theorem nh_after {H : Heap} {locs : List Loc} {ls : Array Slot} {st0 rest : List Value} {ct : nhCtr} {ρ' : List Value} {a : Array Value} (hr : va_Run p l e R s m args below meth c H locs 0 0 0 0 (F0 m pc ls st0) rest (nhQc E ct ρ' a) (fun a => 0 ≤ E.2.2.1 a))
    (k : ∀ (v : Option Value) (H1 : Heap) (locs1 : List Loc), nhPost E ct ρ' v H1 → nhH E.1 E.2.1 E.2.2.1 E.2.2.2 H1 → H1.size = H.size → (∀ q : Nat, E.2.2.1 q < 0 → H1[q]? = H[q]?) → (ct.2.2.2.2.2.2 = true → H1 = H) → (∀ q ∈ locs1, q ∈ locs ∨ 0 ≤ E.2.2.1 q.base) → W p l e R s m args below meth c H1 locs1 0 0 Q (F0 m (pc + 3) ls (v.toList ++ rest))) : W p l e R s m args below meth c H locs 0 0 Q (F0 m pc ls st0) := by
  intro T hT X
  obtain ⟨v, st₀, t, T', L, h0, X', hL, e1, e2, ⟨⟨v', hv, hp⟩, hh, hz, hk, hpu⟩, st⟩ := hr T hT X
  cases hv
  rw [h0] at hz hk hpu
  obtain ⟨t2, a1, b1⟩ := k v t.heap (locs ++ L) hp hh hz hk hpu (fun q hq => by
    rcases List.mem_append.mp hq with h | h
    · exact Or.inl h
    · exact Or.inr (hL q h)) T' e1 X'
  exact ⟨t2, st t2 a1, b1⟩
/-- a call's new state -/
def nh_post (ct : nhCtr) (σ : List Nat) (rest : List Nat) (S : nhS) : Option nhS := match ct.2.2.2.1, nh_rc σ S.1.length ct.2.2.2.2.1 with
  | some w, some l => nh_pm σ ct.2.2.2.2.2.1 (S.1 ++ [w], S.2.1, S.1.length :: rest, (if ct.2.2.2.2.2.2 = true then S.2.2.2.1 else []), S.2.2.2.2.1, l ++ S.2.2.2.2.2)
  | none, some _ => nh_pm σ ct.2.2.2.2.2.1 (S.1, S.2.1, rest, (if ct.2.2.2.2.2.2 = true then S.2.2.2.1 else []), S.2.2.2.2)
  | _, none => none
theorem nh_post_ok {ct : nhCtr} {σ rest : List Nat} {S' : nhS} {ρ : List Value} {H H0 H1 : Heap} {locs locs1 : List Loc} {ls : Array Slot} {st xs : List Value} {v : Option Value} (h : nh_post ct σ rest S = some S') (hR : nhR E nL pu H0 S ρ H locs ls st) (hrest : nhSt ρ rest xs) (hσ : ∀ j ∈ σ, ∃ x, ρ[j]? = some x)
    (hp : nhPost E ct (nh_pick ρ σ) v H1) (hH : nhH E.1 E.2.1 E.2.2.1 E.2.2.2 H1) (hz : H1.size = H.size) (hk : ∀ q : Nat, E.2.2.1 q < 0 → H1[q]? = H[q]?) (hpu : ct.2.2.2.2.2.2 = true → H1 = H) (hpp : pu = true → ct.2.2.2.2.2.2 = true) (hl : ∀ q ∈ locs1, q ∈ locs ∨ 0 ≤ E.2.2.1 q.base) :
    ∃ ρ2, nhX ρ ρ2 ∧ nhR E nL pu H0 S' ρ2 H1 locs1 ls (v.toList ++ xs) := by
  obtain ⟨b1, ⟨b2, b2', b2''⟩, b3, b4, b5, b6, b7, b8, b9, b10, b11⟩ := hR
  have hFr : nhFr E.2.2.1 pu H0 H1 locs1 := by
    refine ⟨hz.trans b8, fun q hq => (hk q hq).trans (b9 q hq), fun q hq => ?_, fun hq => ?_⟩
    · rcases hl q hq with h | h
      · exact b10 q h
      · exact h
    · rw [hpu (hpp hq)]
      exact b11 hq
  have hMe : nhMe E.1 ρ H1 (if ct.2.2.2.2.2.2 = true then S.2.2.2.1 else []) := by
    split
    · rename_i hq
      rw [hpu hq]
      exact b4
    · exact fun q hq => by cases hq
  obtain ⟨p1, p2, p3⟩ := hp
  unfold nh_post at h
  split at h
  · rename_i w l' hw hl'
    rw [hw] at p1
    cases v with
    | none => exact p1.elim
    | some x =>
      have p1 : nhOk E.2.2.1 E.2.2.2 w x := p1
      have hX := nhX.push ρ x
      have hnew : (ρ ++ [x])[S.1.length]? = some x := by rw [← b1.1]; exact nhX.last ρ x
      have hcn : nhCn (ρ ++ [x]) l' := by
        by_cases hi : ∃ r : Int32, x = .int r
        · obtain ⟨r, rfl⟩ := hi
          exact nh_rc_ok (v := some (.int r)) (r0 := r) hX (fun _ => hnew) hσ hl' p2 (fun r' e => by cases e; rfl)
        · exact nh_rc_ok (v := some x) (r0 := 0) hX (fun e => absurd ⟨0, Option.some.inj e⟩ hi) hσ hl' p2 (fun r' e => absurd ⟨r', Option.some.inj e⟩ hi)
      obtain ⟨ρ2, k1, k2⟩ := nh_pm_ok (E := E) (nL := nL) (pu := pu) (H0 := H0) (H := H1) (locs := locs1) (ls := ls) (st := x :: xs) hσ h hX ⟨b1.push p1, ⟨b2, b2', b2''.mono hX⟩, ⟨hnew, nhSt.mono hX hrest⟩, hMe.mono hX, b5.mono hX, (fun q hq => by
        rcases List.mem_append.mp hq with h | h
        · exact hcn q h
        · exact b6.mono hX q h), hH, hFr⟩ p3
      exact ⟨ρ2, hX.tr k1, k2⟩
  · rename_i hw hl'
    rw [hw] at p1
    cases v with
    | some x => exact p1.elim
    | none =>
      exact nh_pm_ok (E := E) (nL := nL) (pu := pu) (H0 := H0) (H := H1) (locs := locs1) (ls := ls) (st := xs) hσ h (nhX.rf ρ) ⟨b1, ⟨b2, b2', b2''⟩, hrest, hMe, b5, b6, hH, hFr⟩ p3
  · cases h
def nh_recv (kd : List nhKd) (S : nhS) (C : String) (as : List Nat) : Bool := match as with
  | o :: _ => match S.1[o]? with
    | some v => match nh_kd kd v with
      | some k => k.1 == 0 && decide ((nhCl[k.2.1]?).map (fun r => r.1) = some C)
      | none => false
    | none => false
  | [] => false
def nh_sCall2 (kd : List nhKd) (en : nhIn) (y : nhMth) (fr lo : Nat) (pu sta : Bool) (S : nhS) : Option nhS :=
  if y.2.2.2.2.1 = sta ∧ en.2.1.1 = y.2.2.2.2.2 + cond sta 0 1 ∧ en.2.2.1 + 1 ≤ fr ∧ 8 + (y.2.2.1 + 11) + en.2.2.2 ≤ lo ∧ (pu = true → en.2.1.2.2.2.2.2.2 = true) ∧ en.2.1.1 ≤ S.2.2.1.length ∧ (sta = false → nh_recv kd S y.1.cls (S.2.2.1.take en.2.1.1).reverse = true) then
    match nh_sig S.2.2.2.1 en.2.1.2.2.1 (S.2.2.1.take en.2.1.1).reverse, nh_catS S.1 (S.2.2.1.drop en.2.1.1) with
    | some σ, some cs => if nh_fitV S.1 σ en.2.1.2.1 = true ∧ cs ≤ 8 then nh_post en.2.1 σ (S.2.2.1.drop en.2.1.1) S else none
    | _, _ => none
  else none
def nh_inv (i : Instr) : Option (Nat × Bool) := match i with
  | .invokevirtual idx => some (idx, false)
  | .invokestatic idx => some (idx, true)
  | _ => none
def nh_sCall (kd : List nhKd) (IT : List nhIn) (own : Nat) (cm : List (Nat × Nat)) (fr lo : Nat) (pu : Bool) (S : nhS) (pc : Nat) (i : Instr) (len : Nat) : Option nhS :=
  match nh_inv i with
  | some q => match nh_find cm pc with
    | some j => match nh_find (nhLn.getD own []) q.1 with
      | some mn => match IT[j]? with
        | some en => match nhMt[mn]? with
          | some y => if en.1 = mn ∧ len = 3 then nh_sCall2 kd en y fr lo pu q.2 S else none
          | none => none
        | none => none
      | none => none
    | none => none
  | none => none
theorem nh_sCall2_ok (hF : nhFx p c s m args cc nL own E.1) {idx mn : Nat} {sta : Bool} {fr lo : Nat} (hR1 : R.frames = fr) (hR2 : R.locals = lo) {y : nhMth} (hy : nhMt[mn]? = some y) {en : nhIn} (hM : nhMet E.2.1 y en) (hlk : (idx, mn) ∈ nhLn.getD own []) (hd : decode cc pc = .ok (cond sta (.invokestatic idx) (.invokevirtual idx), 3)) {S' : nhS} (h : nh_sCall2 E.2.1 en y fr lo pu sta S = some S')
    (k : nhGo p l e R s m args below meth c Q E nL pu (pc + 3) S' ρ0) : nhGo p l e R s m args below meth c Q E nL pu pc S ρ0 := by
  intro ρ H locs ls st hρ hR
  obtain ⟨hx, hb, hml, ⟨C, hC, hown⟩, hts, hK⟩ := hF
  unfold nh_sCall2 at h
  split at h
  · rename_i hc
    obtain ⟨c1, c2, c3, c4, c5, c6, c7⟩ := hc
    split at h
    · rename_i σ cs hσ hcs
      split at h
      · rename_i hc2
        obtain ⟨d1, d2⟩ := hc2
        obtain ⟨m1, m2, m3, m4, m5, m6⟩ := nh_mt_ok hy
        have hlink := nh_lk_ok hC hlk hy
        dsimp only at hlink
        have hs := hR.2.2.1
        rw [← List.take_append_drop en.2.1.1 S.2.2.1] at hs
        obtain ⟨s1, s2, rfl, hs1, hs2⟩ := nhSt.app hs
        have hp1 := hs1.pick
        have hlen : s1.length = en.2.1.1 := by rw [← hs1.len, List.length_take]; omega
        obtain ⟨k1, k2, k3⟩ := nh_sig_ok hR.2.2.2.1 hσ (fun j hj => by
          have hj' := List.mem_reverse.mp hj
          have hall : ∀ {a : List Nat} {z : List Value}, nhSt ρ a z → ∀ j ∈ a, ∃ x, ρ[j]? = some x := by
            intro a
            induction a with
            | nil => intro z _ j hj; cases hj
            | cons i a ih =>
              intro z hz j hj
              obtain ⟨x, xs, rfl, g1, g2⟩ := hz.inv1
              rcases List.mem_cons.mp hj with rfl | hj
              · exact ⟨x, g1⟩
              · exact ih g2 j hj
          exact hall hs1 j hj')
        obtain ⟨f1, f2⟩ := nh_fitV_ok hR.1 d1
        have hrev : nh_pick ρ (S.2.2.1.take en.2.1.1).reverse = s1.reverse := by
          unfold nh_pick at hp1 ⊢
          rw [List.map_reverse, hp1]
        have htake : (nh_pick ρ σ).take en.2.1.1 = s1.reverse := by
          rw [← hrev]
          unfold nh_pick
          rw [← List.map_take]
          congr 1
          apply List.ext_getElem?
          intro n
          by_cases hn : n < en.2.1.1
          · rw [List.getElem?_take, if_pos hn]
            have hl1 : (S.2.2.1.take en.2.1.1).reverse.length = en.2.1.1 := by simp; omega
            have := List.getElem?_eq_getElem (l := (S.2.2.1.take en.2.1.1).reverse) (i := n) (by omega)
            rw [this]
            exact k1 n _ this
          · rw [List.getElem?_take, if_neg hn, List.getElem?_eq_none]
            simp
            omega
        have hB : CallB R s args C idx y.1 y.2.1 y.2.2.1 y.2.2.2.1 (nhWs y) (nhRm en) 0 0 y.2.2.2.2.2 := callB_of y.2.2.2.2.2 hts (nhGoodIn m1) rfl rfl rfl (hts _ m2) (hts _ hlink) m5 ⟨by rw [hR1]; exact c3, by rw [hR2]; exact c4⟩
        have hPre : ∀ U : State, U.heap = H → s.WarmedH U.vm → nhPc E en.2.1 (nh_pick ρ σ) (s1.reverse).toArray U := fun U hU hW =>
          ⟨by rw [htake], f1, by rw [hU]; exact k3, by rw [hU]; exact hR.2.2.2.2.2.2.1, hK.moved hW.alike⟩
        have hW8 : (s2.map fun v => v.category).sum ≤ 8 := Nat.le_trans (nh_catS_ok hR.1 hcs hs2) d2
        have hfin : va_Run p l e R s m args below meth c H locs 0 0 0 0 (F0 m pc ls (s1 ++ s2)) s2 (nhQc E en.2.1 (nh_pick ρ σ) (s1.reverse).toArray) (fun a => 0 ≤ E.2.2.1 a) := by
          have hMM := hM l E.1 E.2.2.1 E.2.2.2 (nh_pick ρ σ)
          cases sta with
          | true =>
            exact va_runS (As := s1.reverse) (rest := s2) ⟨hx, hb, hml, hown, hts⟩ hMM ⟨hB, hts _ (m3 c1)⟩ ⟨nhPc_blind _ _ _, hPre⟩ rfl (by rw [List.length_reverse, hlen, c2]; rfl) hR.2.1.1 (by rw [List.reverse_reverse]) (lv_room hW8) hd ⟨Nat.zero_le _, Nat.zero_le _⟩
          | false =>
            obtain ⟨n1, n2⟩ := m4 c1
            have c7 := c7 rfl
            unfold nh_recv at c7
            split at c7
            · rename_i o as hrv
              split at c7
              · rename_i v hv
                split at c7
                · rename_i kk hkk
                  simp only [Bool.and_eq_true, beq_iff_eq, decide_eq_true_eq] at c7
                  obtain ⟨x', g1, g2⟩ := hR.1.2 o v hv
                  obtain ⟨a, rfl, ha1, ha2, ha3, ha4⟩ := nh_kd_ok hkk g2 hR.2.2.2.2.2.2.1
                  have hs1r : s1.reverse = .ref a :: nh_pick ρ as := by
                    rw [← hrev, hrv]
                    show (ρ[o]?).getD .null :: nh_pick ρ as = _
                    rw [g1]
                    rfl
                  obtain ⟨t, ci, N, avs⟩ := kk
                  dsimp only at c7
                  obtain ⟨rfl, c7⟩ := c7
                  obtain ⟨r, hr, hrn⟩ := Option.map_eq_some_iff.mp c7
                  obtain ⟨V, ⟨cell, q1, q2, q3, q4⟩, hV2⟩ := ha4
                  dsimp only at q2
                  rw [hs1r] at hPre ⊢
                  exact va_runV (b := a) (As := nh_pick ρ as) (rest := s2) ⟨hx, hb, hml, hown, hts⟩ hMM ⟨hB, hts _ n1, hts _ n2⟩ ⟨nhPc_blind _ _ _, ⟨cell, q1, by rw [q3]; rfl, by rw [q2, ← hrn]; exact (hK.1 ci r hr).2.1⟩, hPre⟩ rfl (by
                    have := congrArg List.length hs1r
                    simp only [List.length_reverse, List.length_cons] at this
                    have c2' : en.2.1.1 = y.2.2.2.2.2 + 1 := c2
                    omega) hR.2.1.1 (by
                    have : s1 = (nh_pick ρ as).reverse ++ [.ref a] := by
                      have := congrArg List.reverse hs1r
                      simpa using this
                    show s1 ++ s2 = _
                    rw [this]
                    simp) (lv_room hW8) hd ⟨Nat.zero_le _, Nat.zero_le _⟩
                · cases c7
              · cases c7
            · cases c7
        refine nh_after hfin (fun v H1 locs1 hp hH hz hk hpu hl => ?_)
        obtain ⟨ρ2, z1, z2⟩ := nh_post_ok h hR hs2 f2 hp hH hz hk hpu c5 hl
        exact k ρ2 H1 locs1 ls _ (hρ.tr z1) z2
      · cases h
    · cases h
  · cases h
theorem nh_sCall_ok (hF : nhFx p c s m args cc nL own E.1) {IT : List nhIn} {cm : List (Nat × Nat)} {fr lo : Nat} (hR1 : R.frames = fr) (hR2 : R.locals = lo) (hM : ∀ (j : Nat) (en : nhIn) (y : nhMth), (∃ pc, (pc, j) ∈ cm) → IT[j]? = some en → nhMt[en.1]? = some y → nhMet E.2.1 y en) {i : Instr} {len : Nat} (hd : decode cc pc = .ok (i, len)) {S' : nhS} (h : nh_sCall E.2.1 IT own cm fr lo pu S pc i len = some S')
    (k : nhGo p l e R s m args below meth c Q E nL pu (pc + len) S' ρ0) : nhGo p l e R s m args below meth c Q E nL pu pc S ρ0 := by
  unfold nh_sCall at h
  split at h
  · rename_i q hq
    split at h
    · rename_i j hj
      split at h
      · rename_i mn hmn
        split at h
        · rename_i en hen
          split at h
          · rename_i y hy
            split at h
            · rename_i hc
              obtain ⟨e1, rfl⟩ := hc
              refine nh_sCall2_ok hF (idx := q.1) (mn := mn) (sta := q.2) hR1 hR2 hy (hM j en y ⟨pc, nh_find_ok hj⟩ hen (by rw [e1]; exact hy)) (nh_find_ok hmn) ?_ h k
              unfold nh_inv at hq
              split at hq
              · cases hq; exact hd
              · cases hq; exact hd
              · cases hq
            · cases h
          · cases h
        · cases h
      · cases h
    · cases h
  · cases h
end NH17
