/-! contracts and calls -/
def nkRt (F : nkS) (ρ : Nat → Value) (v : Option Value) : Prop := match F.2.2.2.1 with
  | [] => v = none
  | [r] => r < F.1 ∧ v = some (ρ r)
  | _ => False
def nkPc (E : nkE) (as : List Nat) (S : nkS) (ρ : Nat → Value) : Array Value → State → Prop := fun a U => a = (as.map ρ).toArray ∧ nkT E S ρ U.heap ∧ nhK E.1 U ∧ nkZ E U
def nkQc (E : nkE) (Ws : nkWs) (Fs : List nkS) (n : Nat) (ρ : Nat → Value) : Array Value → State → Outcome → State → Prop := fun _ st o t =>
  (∃ (v : Option Value) (F : nkS) (ρ' : Nat → Value), o = .returned v ∧ F ∈ Fs ∧ n ≤ F.1 ∧ nkX n ρ ρ' ∧ nkT E F ρ' t.heap ∧ nkRt F ρ' v) ∧ nkFr E Ws st.heap t.heap []
def nkRm (fr lo : Nat) : Room := { frames := fr, cells := 0, slots := 0, locals := lo }
def nkMet (kd : List nkKd) (y : nhMth) (fr lo : Nat) (as : List Nat) (S : nkS) (Ws : nkWs) (Fs : List nkS) : Prop := ∀ (l : Launch) (D : nhD) (Γ : Nat → Nat) (ρ : Nat → Value), Met l y.1 (nhWs y) (nkRm fr lo) (nkPc (D, kd, Γ) as S ρ) (nkQc (D, kd, Γ) Ws Fs S.1 ρ) 0 0 (fun a => Γ a < kd.length)
theorem nkPc_blind (E : nkE) (as : List Nat) (S : nkS) (ρ : Nat → Value) : FrameBlind (nkPc E as S ρ) := fun a U g mk q => by
  obtain ⟨h1, h2, h3, h4⟩ := q
  exact ⟨h1, h2, nhK.moved (u := U) (U := U.calling g mk a) (Vm.Alike.refl U.vm) h3, nkZ.same (u := U) (U := U.calling g mk a) rfl rfl h4⟩
def nk_catS (S : nkS) : List Nat → Option Nat
  | [] => some 0
  | j :: r => match nk_g S.2.1 S.1 j, nk_catS S r with
    | some v, some n => match nk_cat v with
      | 0 => some (n + 1)
      | 1 => some (n + 2)
      | 2 => some (n + 1)
      | _ => none
    | _, _ => none
theorem nk_catS_ok {E : nkE} {S : nkS} {ρ : Nat → Value} (hA : nkAll E.2.2 S.1 S.2.1 ρ) : ∀ {is : List Nat} {n : Nat}, nk_catS S is = some n → ((is.map ρ).map fun v => v.category).sum ≤ n
  | [], n, h => by simp
  | j :: r, n, h => by
    unfold nk_catS at h
    split at h
    · rename_i v k hv hk
      have ih := nk_catS_ok hA hk
      have hok := hA j v hv
      simp only [List.map_cons, List.sum_cons]
      split at h
      · rename_i hc
        cases h
        rw [nk_cat1 hok (Or.inl hc)]
        omega
      · rename_i hc
        cases h
        obtain ⟨a, ea⟩ := (nk_cat_ok hok).2.1 hc
        rw [ea]
        have : (Value.long a).category = 2 := rfl
        omega
      · rename_i hc
        cases h
        rw [nk_cat1 hok (Or.inr hc)]
        omega
      · cases h
    · cases h
section NK38
variable {p : Program} {l : Launch} {e : Env} {R : Room} {s : State} {m : MethodId} {args : Array Value} {below : List Frame} {meth : Method} {c : Code} {Q : State → Prop}
variable {cc : ByteArray} {E : nkE} {nL own : Nat} {Ws : nkWs} {H0 : Heap} {n0 : Nat} {ρ0 : Nat → Value} {pc : Nat} {S : nkS}
/-- a call by a contract -/
theorem nk_callW (hF : nhFx p c s m args cc nL own E.1) (hZ : nkZ E s) {idx mn : Nat} {sta : Bool} {y : nhMth} (hy : nhMt[mn]? = some y) (hlk : (idx, mn) ∈ nhLn.getD own []) (hd : decode cc pc = .ok (cond sta (.invokestatic idx) (.invokevirtual idx), 3)) (hst : y.2.2.2.2.1 = sta) {fr lo : Nat} (hfr : fr + 1 ≤ R.frames) (hlo : 8 + (y.2.2.1 + 11) + lo ≤ R.locals)
    {as : List Nat} {Sc : nkS} {Wc : nkWs} {Fs : List nkS} {ρc : Nat → Value} (hM : nkMet E.2.1 y fr lo as Sc Wc Fs) {vals : List Value} (hvals : as.map ρc = vals) (hlen : vals.length = y.2.2.2.2.2 + cond sta 0 1) {H : Heap} {locs : List Loc} {ls : Array Slot} {rest : List Value} (hun : ∀ q : Nat, E.2.1.length ≤ E.2.2 q → H[q]? = s.heap[q]?) (hT : nkT E Sc ρc H) (hls : ls.size = nL) (hcat : (rest.map fun v => v.category).sum ≤ 8)
    (hrecv : sta = false → ∃ (a : Nat) (as' : List Value) (ci : Nat) (r : vw_C) (N : Nat) (V : Nat → Value), vals = .ref a :: as' ∧ nhCl[ci]? = some r ∧ r.1 = y.1.cls ∧ t_OB a (E.1.1 ci) N (E.1.2.1 ci) H V)
    (k : ∀ (v : Option Value) (F : nkS) (ρ' : Nat → Value) (H1 : Heap) (locs1 : List Loc), F ∈ Fs → Sc.1 ≤ F.1 → nkX Sc.1 ρc ρ' → nkT E F ρ' H1 → nkRt F ρ' v → nkFr E Wc H H1 [] → (∀ q ∈ locs1, q ∈ locs ∨ E.2.2 q.base < E.2.1.length) → W p l e R s m args below meth c H1 locs1 0 0 Q (F0 m (pc + 3) ls (v.toList ++ rest))) :
    W p l e R s m args below meth c H locs 0 0 Q (F0 m pc ls (vals.reverse ++ rest)) := by
  obtain ⟨hx, hb, hml, ⟨C, hC, hown⟩, hts, hK⟩ := hF
  obtain ⟨m1, m2, m3, m4, m5, m6⟩ := nh_mt_ok hy
  have hlink := nh_lk_ok hC hlk hy
  dsimp only at hlink
  have hB : CallB R s args C idx y.1 y.2.1 y.2.2.1 y.2.2.2.1 (nhWs y) (nkRm fr lo) 0 0 y.2.2.2.2.2 := callB_of y.2.2.2.2.2 hts (nhGoodIn m1) rfl rfl rfl (hts _ m2) (hts _ hlink) m5 ⟨hfr, hlo⟩
  have hPre : ∀ U : State, U.heap = H → s.WarmedH U.vm → nkPc E as Sc ρc vals.toArray U := fun U hU hW => ⟨by rw [hvals], by rw [hU]; exact hT, hK.moved hW.alike, hZ.to hW (fun q hq => by rw [hU]; exact hun q hq)⟩
  have hMM := hM l E.1 E.2.2 ρc
  have hfin : va_Run p l e R s m args below meth c H locs 0 0 0 0 (F0 m pc ls (vals.reverse ++ rest)) rest (nkQc E Wc Fs Sc.1 ρc vals.toArray) (fun a => E.2.2 a < E.2.1.length) := by
    cases sta with
    | true =>
      exact va_runS (As := vals) (rest := rest) ⟨hx, hb, hml, hown, hts⟩ hMM ⟨hB, hts _ (m3 hst)⟩ ⟨nkPc_blind _ _ _ _, hPre⟩ rfl (by rw [hlen]; rfl) hls rfl (lv_room hcat) hd ⟨Nat.zero_le _, Nat.zero_le _⟩
    | false =>
      obtain ⟨n1, n2⟩ := m4 hst
      obtain ⟨a, as', ci, r, N, V, rfl, hr, hrn, cell, q1, q2, q3, q4⟩ := hrecv rfl
      exact va_runV (b := a) (As := as') (rest := rest) ⟨hx, hb, hml, hown, hts⟩ hMM ⟨hB, hts _ n1, hts _ n2⟩ ⟨nkPc_blind _ _ _ _, ⟨cell, q1, by rw [q3]; rfl, by rw [q2, ← hrn]; exact (hK.1 ci r hr).2.1⟩, hPre⟩ rfl (by
        have hlen : as'.length + 1 = y.2.2.2.2.2 + 1 := hlen
        omega) hls (by
        show (Value.ref a :: as').reverse ++ rest = _
        simp) (lv_room hcat) hd ⟨Nat.zero_le _, Nat.zero_le _⟩
  intro T hT X
  obtain ⟨v, st₀, t, T', L, h0, X', hL, e1, e2, ⟨⟨v', F, ρ', hv, hF1, hF2, hF3, hF4, hF5⟩, hFr⟩, st⟩ := hfin T hT X
  cases hv
  rw [h0] at hFr
  obtain ⟨t2, a1, b1⟩ := k v F ρ' t.heap (locs ++ L) hF1 hF2 hF3 hF4 hF5 hFr (fun q hq => by
    rcases List.mem_append.mp hq with h | h
    · exact Or.inl h
    · exact Or.inr (hL q h)) T' e1 X'
  exact ⟨t2, st t2 a1, b1⟩
end NK38
/-! behind a call by an instance's contract -/
theorem nk_g_app1 {α : Type} (b : List α) (n : Nat) : ∀ (a : List α) {i : Nat}, i < n → nk_g (a ++ b) (n + a.length) i = nk_g b n i
  | [], i, _ => rfl
  | x :: a, i, h => by
    rw [List.cons_append, List.length_cons, ← Nat.add_assoc, nk_g_push, if_neg (by omega)]
    exact nk_g_app1 b n a h
theorem nk_g_app2 {α : Type} (b b' : List α) (n n' : Nat) : ∀ (a : List α) {i : Nat} {v : α}, n ≤ i → nk_g (a ++ b) (n + a.length) i = some v → nk_g (a ++ b') (n' + a.length) (n' + (i - n)) = some v
  | [], i, v, h, g => by
    have := nk_g_lt g
    simp at this
    omega
  | x :: a, i, v, h, g => by
    rw [List.cons_append, List.length_cons, ← Nat.add_assoc, nk_g_push] at g ⊢
    split at g
    · rename_i e
      rw [if_pos (by omega)]
      exact g
    · rename_i e
      rw [if_neg (by omega)]
      exact nk_g_app2 b b' n n' a h g
/-- (method, frames, locals' words, number of arguments, entry, what it may write, ends) -/
abbrev nkIn : Type := Nat × Nat × Nat × Nat × nkS × nkWs × List nkS
/-- a variable of a contract, as one of the caller's -/
def nk_tr (n np : Nat) (σ : nkSg) (i : Nat) : Nat := match Nat.blt i np with
  | true => match nk_g σ.2 σ.1 i with
    | some j => j
    | none => 0
  | false => n + (i - np)
def nk_mt (S : nkS) (j : Nat) (w : nkV) : Option nkS := match w.1 with
  | 0 => nk_ref S j w.2.1 w.2.2
  | 1 => nk_ref S j w.2.1 w.2.2
  | 5 => nk_ref S j w.2.1 w.2.2
  | 2 => match nk_g S.2.1 S.1 j with
    | some v => match v.1 with
      | 3 => some (nk_set S j (2, v.2))
      | _ => some S
    | none => some S
  | _ => some S
def nk_mts (S : nkS) : List Nat → List nkV → Option nkS
  | j :: σ, w :: ws => match nk_mt S j w with
    | some S' => nk_mts S' σ ws
    | none => none
  | _, _ => some S
section NK38b
variable {E : nkE} {nL : Nat} {Ws : nkWs} {H0 : Heap} {ρ : Nat → Value} {H : Heap} {locs : List Loc} {ls : Array Slot} {st : List Value}
theorem nk_mt_ok {S : nkS} {j : Nat} {w : nkV} (h : nkR E nL Ws H0 S ρ H locs ls st) (hw : nkOk E.2.2 w (ρ j)) : ∃ S', nk_mt S j w = some S' ∧ S'.1 = S.1 ∧ nkR E nL Ws H0 S' ρ H locs ls st := by
  obtain ⟨t, a, b⟩ := w
  unfold nk_mt
  dsimp only
  split
  · obtain ⟨z, e, q1, q2⟩ := hw
    exact nk_ref_ok h (Or.inl ⟨z, e, q1, q2⟩)
  · obtain ⟨z, e, q1, q2⟩ := hw
    exact nk_ref_ok h (Or.inr ⟨z, e, q1, q2⟩)
  · obtain ⟨z, e, -, q1, q2⟩ := hw
    exact nk_ref_ok h (Or.inl ⟨z, e, q1, q2⟩)
  · obtain ⟨z, e, q1⟩ := hw
    split
    · rename_i v hv
      have hok := h.1.1 j v hv
      obtain ⟨t', a', b'⟩ := v
      dsimp only
      split
      · refine ⟨_, rfl, rfl, nk_set_ok h ?_⟩
        rcases hok with hok | ⟨z', e', q'⟩
        · rw [e] at hok
          cases hok
        · exact ⟨z', e', q'⟩
      · exact ⟨S, rfl, rfl, h⟩
    · exact ⟨S, rfl, rfl, h⟩
  · exact ⟨S, rfl, rfl, h⟩
theorem nk_mts_ok : ∀ {σ : List Nat} {ws : List nkV} {S : nkS}, nkR E nL Ws H0 S ρ H locs ls st → σ.length = ws.length → (∀ i j w, nk_g σ σ.length i = some j → nk_g ws ws.length i = some w → nkOk E.2.2 w (ρ j)) → ∃ S', nk_mts S σ ws = some S' ∧ S'.1 = S.1 ∧ nkR E nL Ws H0 S' ρ H locs ls st
  | [], [], S, h, _, _ => ⟨S, rfl, rfl, h⟩
  | [], _ :: _, _, _, h, _ => by simp at h
  | _ :: _, [], _, _, h, _ => by simp at h
  | j :: σ, w :: ws, S, h, hl, hw => by
    have hl : σ.length = ws.length := by simpa using hl
    obtain ⟨S1, k1, k2, k3⟩ := nk_mt_ok (j := j) (w := w) h (hw σ.length j w (by rw [List.length_cons, nk_g_push, if_pos rfl]) (by rw [List.length_cons, nk_g_push, if_pos hl]))
    obtain ⟨S2, k4, k5, k6⟩ := nk_mts_ok (σ := σ) (ws := ws) k3 hl (fun i j' w' g1 g2 => by
      have hi := nk_g_lt g1
      refine hw i j' w' ?_ ?_
      · rw [List.length_cons, nk_g_push, if_neg (by omega)]
        exact g1
      · rw [List.length_cons, nk_g_push, if_neg (by omega)]
        exact g2)
    refine ⟨S2, ?_, k5.trans k2, k6⟩
    unfold nk_mts
    rw [k1]
    exact k4
end NK38b
/-- which fields stay known behind a call -/
def nk_kpW (S : nkS) (Ws : nkWs) (q : nkMm) : Bool := match nk_kn S q.1 with
  | some k => nk_off Ws k q.2.1
  | none => false
theorem nk_me_kpW {E : nkE} {S : nkS} {Ws : nkWs} {ρ : Nat → Value} {H H' : Heap} {me : List nkMm} (hA : nkAll E.2.2 S.1 S.2.1 ρ) (hM : nkMe E S.1 ρ H me) (hK : nkKp E Ws H H') : nkMe E S.1 ρ H' (me.filter (nk_kpW S Ws)) := by
  intro q hq
  obtain ⟨q1, q2⟩ := List.mem_filter.mp hq
  obtain ⟨m1, m2, b, k', cell, m3, m4, m5, m6, m7⟩ := hM q q1
  unfold nk_kpW at q2
  split at q2
  · rename_i kk hkk
    obtain ⟨-, b', e1, e2⟩ := nk_kn_ok (E := E) hA hkk
    rw [m3] at e1
    cases e1
    rw [← e2] at q2
    obtain ⟨cell', r1, r2⟩ := hK b k' q.2.1 cell _ m4 m5 q2 m6 m7
    exact ⟨m1, m2, b, k', cell', m3, m4, m5, r1, r2⟩
  · cases q2
/-- what may be written stays within -/
def nk_sub : nkWs → nkWs → Bool
  | [], _ => true
  | w :: r, V => match nk_cvR V w.1 w.2.1 w.2.2 with
    | true => nk_sub r V
    | false => false
theorem nk_off_cov : ∀ {V : nkWs} {w : Nat × Nat × Nat} {k f : Nat}, nk_cvR V w.1 w.2.1 w.2.2 = true → nk_off V k f = true → nk_cov w k f = false
  | V, w, k, f, h, g => by
    cases hc : nk_cov w k f with
    | false => rfl
    | true =>
      exfalso
      unfold nk_cov at hc
      rw [Bool.and_eq_true, Bool.and_eq_true] at hc
      have c1 := Nat.eq_of_beq_eq_true hc.1
      have c2 := Nat.le_of_ble_eq_true hc.2.1
      have c3 := Nat.le_of_ble_eq_true hc.2.2
      subst c1
      have := nk_cvR_off h g
      omega
theorem nk_sub_off : ∀ {Ws V : nkWs} {k f : Nat}, nk_sub Ws V = true → nk_off V k f = true → nk_off Ws k f = true
  | [], V, k, f, _, _ => rfl
  | w :: r, V, k, f, h, g => by
    unfold nk_sub at h
    split at h
    · rename_i e
      unfold nk_off
      rw [nk_off_cov e g]
      exact nk_sub_off h g
    · cases h
theorem nkFr.then {E : nkE} {Wc Ws : nkWs} {H0 H H1 : Heap} {locs locs1 : List Loc} (h : nkFr E Ws H0 H locs) (g : nkFr E Wc H H1 []) (hs : nk_sub Wc Ws = true) (hl : ∀ q ∈ locs1, q ∈ locs ∨ E.2.2 q.base < E.2.1.length) : nkFr E Ws H0 H1 locs1 := by
  obtain ⟨h1, h2, h3, h4⟩ := h
  obtain ⟨g1, g2, g3, g4⟩ := g
  refine ⟨g1.trans h1, fun q hq => (g2 q hq).trans (h2 q hq), fun q hq => ?_, fun a k f cell x q1 q2 q3 q4 q5 => ?_⟩
  · rcases hl q hq with h | h
    · exact h3 q h
    · exact h
  · obtain ⟨c1, r1, r2⟩ := h4 a k f cell x q1 q2 q3 q4 q5
    exact g4 a k f c1 x q1 q2 (nk_sub_off hs q3) r1 r2
def nk_aft (S : nkS) (rest : List Nat) (np : Nat) (σ : nkSg) (Wc : nkWs) (alt : nkS) : Option nkS := match nk_mts (S.1, S.2.1, S.2.2.1, rest, S.2.2.2.2.1.filter (nk_kpW S Wc), S.2.2.2.2.2) σ.2 (alt.2.1.drop (alt.1 - np)) with
  | some S1 => some (S1.1 + (alt.1 - np), alt.2.1.take (alt.1 - np) ++ S1.2.1, S1.2.2.1, alt.2.2.2.1.map (nk_tr S1.1 np σ) ++ rest, alt.2.2.2.2.1.map (fun q => (nk_tr S1.1 np σ q.1, q.2.1, nk_tr S1.1 np σ q.2.2)) ++ S1.2.2.2.2.1, alt.2.2.2.2.2.1.map (fun q => (nk_tr S1.1 np σ q.1, nk_tr S1.1 np σ q.2.1, q.2.2)) ++ S1.2.2.2.2.2.1, S1.2.2.2.2.2.2)
  | none => none
def nk_afts (S : nkS) (rest : List Nat) (np : Nat) (σ : nkSg) (Wc : nkWs) : List nkS → List nkS
  | [] => []
  | alt :: r => match nk_aft S rest np σ Wc alt with
    | some S' => S' :: nk_afts S rest np σ Wc r
    | none => nk_afts S rest np σ Wc r
theorem nk_afts_mem {S S' : nkS} {rest : List Nat} {np : Nat} {σ : nkSg} {Wc : nkWs} {alt : nkS} : ∀ {l : List nkS}, alt ∈ l → nk_aft S rest np σ Wc alt = some S' → S' ∈ nk_afts S rest np σ Wc l
  | [], h, _ => by cases h
  | a :: r, h, g => by
    unfold nk_afts
    rcases List.mem_cons.mp h with rfl | h
    · rw [g]
      exact List.mem_cons_self
    · split
      · exact List.mem_cons_of_mem _ (nk_afts_mem h g)
      · exact nk_afts_mem h g
theorem nk_g_mem {l : List Nat} : ∀ {n i j : Nat}, nk_g l n i = some j → j ∈ l := by
  induction l with
  | nil => intro n i j h; cases h
  | cons x r ih =>
    intro n i j h
    cases n with
    | zero => cases h
    | succ n =>
      rw [nk_g_push] at h
      split at h
      · cases h; exact List.mem_cons_self
      · exact List.mem_cons_of_mem _ (ih h)
theorem nk_g_some {α : Type} : ∀ {l : List α} {n i : Nat}, n ≤ l.length → i < n → ∃ v, nk_g l n i = some v
  | [], n, i, h, g => by simp at h; omega
  | x :: r, 0, i, h, g => by omega
  | x :: r, n + 1, i, h, g => by
    rw [nk_g_push]
    split
    · exact ⟨x, rfl⟩
    · exact nk_g_some (by simpa using h) (by omega)
/-- what the alternative says, in the caller's words -/
theorem nk_aft_ok {E : nkE} {nL : Nat} {Ws Wc : nkWs} {H0 : Heap} {S : nkS} {ρ ρ' : Nat → Value} {H H1 : Heap} {locs locs1 : List Loc} {ls : Array Slot} {st xs : List Value} {rest : List Nat} {np : Nat} {σ : nkSg} {alt : nkS} {v : Option Value}
    (hR : nkR E nL Ws H0 S ρ H locs ls st) (hrest : nkSt S.1 ρ rest xs) (hσ1 : σ.1 = np) (hσ2 : σ.2.length = np) (hσ3 : ∀ j ∈ σ.2, j < S.1) (hal : alt.2.1.length = alt.1) (hnp : np ≤ alt.1) (hX : nkX np (nk_pk σ ρ) ρ') (hT : nkT E alt ρ' H1) (hv : nkRt alt ρ' v) (hFr : nkFr E Wc H H1 []) (hs : nk_sub Wc Ws = true) (hl : ∀ q ∈ locs1, q ∈ locs ∨ E.2.2 q.base < E.2.1.length) :
    ∃ S', nk_aft S rest np σ Wc alt = some S' ∧ S.1 ≤ S'.1 ∧ ∃ ρ2, nkX S.1 ρ ρ2 ∧ nkR E nL Ws H0 S' ρ2 H1 locs1 ls (v.toList ++ xs) ∧ ∀ i, ρ2 (S.1 + i) = ρ' (np + i) := by
  obtain ⟨t1, t2, t3, t4, t5⟩ := hT
  obtain ⟨⟨b1, b2, b3, b4, b5⟩, ⟨b6, b7, b8⟩, b9, b10⟩ := hR
  have hR1 : nkR E nL Ws H0 (S.1, S.2.1, S.2.2.1, rest, S.2.2.2.2.1.filter (nk_kpW S Wc), S.2.2.2.2.2) ρ H1 locs1 ls xs := ⟨⟨b1, nk_me_kpW b1 b2 hFr.2.2.2, b3, b4, t5⟩, ⟨b6, b7, b8⟩, hrest, b10.then hFr hs hl⟩
  have hcnt : alt.1 = np + (alt.1 - np) := by omega
  have htl : (alt.2.1.take (alt.1 - np)).length = alt.1 - np := by rw [List.length_take]; omega
  have hdl : (alt.2.1.drop (alt.1 - np)).length = np := by rw [List.length_drop]; omega
  have hval : ∀ i j, nk_g σ.2 np i = some j → ρ' i = ρ j := fun i j hi => by
    rw [hX i (nk_g_lt hi)]
    exact nk_pk_at (by rw [hσ1]; exact hi)
  have hsplit : alt.2.1 = alt.2.1.take (alt.1 - np) ++ alt.2.1.drop (alt.1 - np) := (List.take_append_drop _ _).symm
  obtain ⟨S1, k1, k2, k3⟩ := nk_mts_ok (σ := σ.2) (ws := alt.2.1.drop (alt.1 - np)) hR1 (by rw [hσ2, hdl]) (fun i j w g1 g2 => by
    rw [hσ2] at g1
    rw [hdl] at g2
    have hi := nk_g_lt g1
    have h3 := nk_g_app1 (alt.2.1.drop (alt.1 - np)) np (alt.2.1.take (alt.1 - np)) hi
    rw [htl, ← hsplit, ← hcnt, g2] at h3
    rw [← hval i j g1]
    exact t1 i w h3)
  have k2 : S1.1 = S.1 := k2
  refine ⟨_, by unfold nk_aft; rw [k1], by show S.1 ≤ S1.1 + _; omega, fun i => if i < S.1 then ρ i else ρ' (np + (i - S.1)), fun i hi => by dsimp only; rw [if_pos hi], ?_, fun i => by dsimp only; rw [if_neg (by omega), Nat.add_sub_cancel_left]⟩
  generalize hρ2 : (fun i => if i < S.1 then ρ i else ρ' (np + (i - S.1))) = ρ2
  have hX2 : nkX S1.1 ρ ρ2 := fun i hi => by rw [← hρ2]; dsimp only; rw [if_pos (by omega)]
  have htr : ∀ i, i < alt.1 → nk_tr S1.1 np σ i < S1.1 + (alt.1 - np) ∧ ρ2 (nk_tr S1.1 np σ i) = ρ' i := fun i hi => by
    unfold nk_tr
    split
    · rename_i hb
      have hb := nk_blt hb
      obtain ⟨j, hj⟩ := nk_g_some (l := σ.2) (n := np) (by omega) hb
      rw [hσ1, hj]
      have hjl := hσ3 j (nk_g_mem hj)
      refine ⟨by dsimp only; omega, ?_⟩
      dsimp only
      rw [hX2 j (by omega), hval i j hj]
    · rename_i hb
      have hb : ¬ i < np := fun q => by
        have := Nat.ble_eq_true_of_le (show i + 1 ≤ np by omega)
        have hb' : Nat.ble (i + 1) np = false := hb
        rw [this] at hb'
        cases hb'
      refine ⟨by omega, ?_⟩
      rw [← hρ2]
      dsimp only
      rw [if_neg (by omega), show np + (S1.1 + (i - np) - S.1) = i by omega]
  obtain ⟨⟨c1, c2, c3, c4, c5⟩, ⟨c6, c7, c8⟩, c9, c10⟩ := k3
  have hle : S1.1 ≤ S1.1 + (alt.1 - np) := Nat.le_add_right _ _
  refine ⟨⟨fun i w hi => ?_, fun q hq => ?_, fun q hq => ?_, c4.mono hX2 hle, c5⟩, ⟨c6, c7, c8.mono hX2 hle⟩, ?_, c10⟩
  · dsimp only at hi
    by_cases h : i < S1.1
    · have h3 := nk_g_app1 S1.2.1 S1.1 (alt.2.1.take (alt.1 - np)) h
      rw [htl, hi] at h3
      rw [hX2 i h]
      exact c1 i w h3.symm
    · have h4 := nk_g_app2 S1.2.1 (alt.2.1.drop (alt.1 - np)) S1.1 np (alt.2.1.take (alt.1 - np)) (i := i) (v := w) (by omega) (by rw [htl]; exact hi)
      rw [htl, ← hsplit, ← hcnt] at h4
      have h5 := t1 _ w h4
      rw [← hρ2]
      dsimp only
      rw [if_neg (by omega), ← k2]
      exact h5
  · rcases List.mem_append.mp hq with hq | hq
    · obtain ⟨w, hw, rfl⟩ := List.mem_map.mp hq
      obtain ⟨g1, g2, g3⟩ := t2 w hw
      obtain ⟨d1, d2⟩ := htr _ g1
      obtain ⟨d3, d4⟩ := htr _ g2
      refine ⟨d1, d3, ?_⟩
      dsimp only
      rw [d2, d4]
      exact g3
    · exact c2.mono hX2 hle q hq
  · rcases List.mem_append.mp hq with hq | hq
    · obtain ⟨w, hw, rfl⟩ := List.mem_map.mp hq
      obtain ⟨g1, g2, g3⟩ := t3 w hw
      obtain ⟨d1, d2⟩ := htr _ g1
      obtain ⟨d3, d4⟩ := htr _ g2
      refine ⟨d1, d3, ?_⟩
      dsimp only
      rw [d2, d4]
      exact g3
    · exact c3.mono hX2 hle q hq
  · have hr2 := nkSt.mono hX2 (m := S1.1 + (alt.1 - np)) hle (is := rest) (st := xs) (by rw [k2]; exact hrest)
    unfold nkRt at hv
    split at hv
    · rename_i hst
      rw [hst, hv]
      exact hr2
    · rename_i r hst
      rw [hst, hv.2]
      obtain ⟨d1, d2⟩ := htr r hv.1
      have := hr2.cons d1
      rw [d2] at this
      exact this
    · exact hv.elim
