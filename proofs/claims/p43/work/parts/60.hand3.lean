/-! for methods by hand with ghosts: calls at a place, ends -/
def nk_calC (kd : List nkKd) (mn fr lo : Nat) (Ws : nkWs) (S : nkS) (pc : Nat) (en : nkIn) : Option (nkSg × List Nat) := match nk_dk (nk_nD nhDa mn []) pc with
  | some q => nk_calH kd (nk_nD nhMo mn 99) fr lo Ws S q.1 q.2 en
  | none => none
theorem nk_callC {p : Program} {l : Launch} {e : Env} {R : Room} {s : State} {m : MethodId} {args : Array Value} {below : List Frame} {meth : Method} {c : Code} {Q : State → Prop} {cc : ByteArray} {D : nhD} {Γ : Nat → Nat} {kd : List nkKd} {spt : List (Nat × nkSp)} {mn : Nat} {y : nhMth} {fr lo : Nat} {Ws : nkWs} {pc : Nat} {S : nkS} (hh : nkHc2 p R s m args meth c cc (D, kd, Γ) spt mn y fr lo) {en : nkIn} {σ : nkSg} {rest : List Nat} (h : nk_calC kd mn fr lo Ws S pc en = some (σ, rest))
    {Pg : nkE → (Nat → Value) → Heap → Prop} {Qg : nkE → (Nat → Value) → Heap → Heap → Option Value → nkS → (Nat → Value) → Prop} (hM : nkMetG kd en Pg Qg) {ρ : Nat → Value} {H : Heap} {locs : List Loc} {ls : Array Slot} {st : List Value} (hR : nkR (D, kd, Γ) y.2.2.1 Ws s.heap S ρ H locs ls st) (hPg : Pg (D, kd, Γ) (nk_pk σ ρ) H)
    (k : ∀ F ∈ en.2.2.2.2.2.2, ∀ (S' : nkS) (ρ' ρ2 : Nat → Value) (H1 : Heap) (locs1 : List Loc) (st1 : List Value) (v : Option Value), nk_aft S rest σ.1 σ en.2.2.2.2.2.1 F = some S' → nkX S.1 ρ ρ2 → (∀ i, ρ2 (S.1 + i) = ρ' (σ.1 + i)) → nkX σ.1 (nk_pk σ ρ) ρ' → nkR (D, kd, Γ) y.2.2.1 Ws s.heap S' ρ2 H1 locs1 ls (v.toList ++ st1) → nkFr (D, kd, Γ) en.2.2.2.2.2.1 H H1 [] → Qg (D, kd, Γ) (nk_pk σ ρ) H H1 v F ρ' → W p l e R s m args below meth c H1 locs1 0 0 Q (F0 m (pc + 3) ls (v.toList ++ st1))) :
    W p l e R s m args below meth c H locs 0 0 Q (F0 m pc ls st) := by
  unfold nk_calC at h
  split at h
  · rename_i q hq
    exact nk_callH hh.2.1 (fun _ _ => rfl) (M := nk_md spt mn y) hq h hM hR hPg (fun F hF S' ρ' ρ2 H1 locs1 st1 v h1 _ h2 h3 h4 h5 h6 h7 => k F hF S' ρ' ρ2 H1 locs1 st1 v h1 h2 h3 h4 h5 h6 h7)
  · cases h
/-- an end's answer, in another pattern's words -/
theorem nk_entR {E : nkE} {S P : nkS} {ρ : Nat → Value} {H : Heap} {np : Nat} {σ : nkSg} {v : Option Value} (h : nk_ent np P S = some σ) (hlo : S.2.2.1 = []) (hT : nkT E S ρ H) (hst : ∀ i ∈ S.2.2.2.1, i < S.1) (hv : nkRt S ρ v) : nkT E P (nk_pk σ ρ) H ∧ nkX np ρ (nk_pk σ ρ) ∧ nkRt P (nk_pk σ ρ) v := by
  have hR : nkR E 0 [] H S ρ H [] #[] (S.2.2.2.1.map ρ) := ⟨hT, ⟨rfl, ⟨fun i v h _ => by simp at h, fun i h => by simp at h⟩, by rw [hlo]; exact fun q hq => by cases hq⟩, ⟨rfl, hst⟩, rfl, fun _ _ => rfl, (fun q hq => by cases hq), nkKp.rf _ _ _⟩
  obtain ⟨h1, h2, -, -⟩ := nk_ent_ok h hR
  refine ⟨h1.1, h2, ?_⟩
  have hs1 := h1.2.2.1
  have hs2 := hs1.1
  unfold nkRt at hv ⊢
  split at hv
  · rename_i hst'
    rw [hst'] at hs2
    have hnil : P.2.2.2.1 = [] := by
      cases hq : P.2.2.2.1 with
      | nil => rfl
      | cons x r =>
        rw [hq] at hs2
        have hlen := congrArg List.length hs2
        simp at hlen
    rw [hnil]
    exact hv
  · rename_i r hst'
    rw [hst'] at hs2
    cases hq : P.2.2.2.1 with
    | nil =>
      rw [hq] at hs2
      have hlen := congrArg List.length hs2
      simp at hlen
    | cons x xs =>
      rw [hq] at hs2
      cases hq2 : xs with
      | cons x2 xs2 =>
        rw [hq2] at hs2
        have hlen := congrArg List.length hs2
        simp at hlen
      | nil =>
        rw [hq2] at hs2
        have h5 : ρ r = nk_pk σ ρ x := List.head_eq_of_cons_eq hs2
        exact ⟨hs1.2 x (by rw [hq]; exact List.mem_cons_self), by rw [← h5]; exact hv.2⟩
  · exact hv.elim
def nk_stB (S : nkS) : Bool := S.2.2.1.isEmpty && S.2.2.2.1.all (fun i => Nat.blt i S.1)
theorem nk_stB_ok {S : nkS} (h : nk_stB S = true) : S.2.2.1 = [] ∧ ∀ i ∈ S.2.2.2.1, i < S.1 := by
  unfold nk_stB at h
  rw [Bool.and_eq_true] at h
  exact ⟨List.isEmpty_iff.mp h.1, fun i hi => nk_blt (List.all_eq_true.mp h.2 i hi)⟩
/-- an end that fits one of the contract's -/
theorem nk_finG {E : nkE} {Ws : nkWs} {Fs : List nkS} {n : Nat} {ρ : Nat → Value} {G : Heap → Heap → Option Value → nkS → (Nat → Value) → Prop} {a F : nkS} {ρ2 : Nat → Value} {H2 : Heap} {σ : nkSg} {s t : State} {args : Array Value} {v : Option Value} (hent : nk_ent n F a = some σ) (hb : nk_stB a = true) (hT : nkT E a ρ2 H2) (hX : nkX n ρ ρ2) (hn : n ≤ F.1) (hF : F ∈ Fs) (hv : nkRt a ρ2 v) (ht : t.heap = H2) (hFr : nkFr E Ws s.heap H2 []) (hG : G s.heap H2 v F (nk_pk σ ρ2)) : nkQg E Ws Fs n ρ G args s (.returned v) t := by
  obtain ⟨b1, b2⟩ := nk_stB_ok hb
  obtain ⟨h1, h2, h3⟩ := nk_entR hent b1 hT b2 hv
  exact ⟨⟨v, F, nk_pk σ ρ2, rfl, hF, hn, fun i hi => (h2 i hi).trans (hX i hi), by rw [ht]; exact h1, h3, by rw [ht]; exact hG⟩, by rw [ht]; exact hFr⟩
theorem nk_finI {E : nkE} {Ws : nkWs} {Fs : List nkS} {n : Nat} {ρ : Nat → Value} {a F : nkS} {ρ2 : Nat → Value} {H2 : Heap} {σ : nkSg} {s t : State} {args : Array Value} {v : Option Value} (hent : nk_ent n F a = some σ) (hb : nk_stB a = true) (hT : nkT E a ρ2 H2) (hX : nkX n ρ ρ2) (hn : n ≤ F.1) (hF : F ∈ Fs) (hv : nkRt a ρ2 v) (ht : t.heap = H2) (hFr : nkFr E Ws s.heap H2 []) : nkQc E Ws Fs n ρ args s (.returned v) t := by
  obtain ⟨b1, b2⟩ := nk_stB_ok hb
  obtain ⟨h1, h2, h3⟩ := nk_entR hent b1 hT b2 hv
  exact ⟨⟨v, F, nk_pk σ ρ2, rfl, hF, hn, fun i hi => (h2 i hi).trans (hX i hi), by rw [ht]; exact h1, h3⟩, by rw [ht]; exact hFr⟩
/-- the token is a sign: what stands there is no letter and no tilde -/
def nkTok (E : nkE) (H : Heap) (a fA fS fT fX : Nat) : Prop := nkFd E H a fT (.int 5) → ∃ (j sz t : Nat) (z : Nat → Value) (x : Int32), nkFd E H a fA (.int (nI j)) ∧ nkFd E H a fS (.int (nI sz)) ∧ j < sz ∧ sz ≤ 1600 ∧ nkFd E H a fX (.ref t) ∧ H[t]? = some (arrV (E.1.2.2 1) 1600 z) ∧ z j = .int x ∧ 37 ≤ x.toInt ∧ x.toInt ≤ 62
/-- what sign() answers -/
def nkSgQ (E : nkE) (ρ : Nat → Value) (H : Heap) (v : Option Value) : Prop := ∀ (t j sz : Nat) (z : Nat → Value), ρ 3 = .ref t → ρ 1 = .int (nI j) → ρ 2 = .int (nI sz) → H[t]? = some (arrV (E.1.2.2 1) 1600 z) → j ≤ 1600 → sz ≤ 1600 → ∃ r : Int32, v = some (.int r) ∧ 0 ≤ r.toInt ∧ r.toInt ≤ 255 ∧ (37 ≤ r.toInt → r.toInt ≤ 62 → j < sz ∧ ∃ x : Int32, z j = .int x ∧ 37 ≤ x.toInt ∧ x.toInt ≤ 62) ∧ (∀ x : Int32, j < sz → z j = .int x → 37 ≤ x.toInt → x.toInt ≤ 62 → 37 ≤ r.toInt ∧ r.toInt ≤ 62)
/-- of the state behind a call -/
def nk_afM (o : Option nkS) (f : nkS → Bool) : Bool := match o with
  | some S => f S
  | none => true
theorem nk_afM_ok {o : Option nkS} {f : nkS → Bool} {S : nkS} (h : nk_afM o f = true) (hS : o = some S) : f S = true := by
  unfold nk_afM at h
  rw [hS] at h
  exact h
/-- no place of a kind is written -/
def nk_noK : nkWs → Nat → Bool
  | [], _ => true
  | w :: r, k => !(Nat.beq w.1 k) && nk_noK r k
theorem nk_noK_ok : ∀ {W : nkWs} {k : Nat}, nk_noK W k = true → ∀ j, nk_off W k j = true
  | [], _, _, _ => rfl
  | w :: r, k, h, j => by
    unfold nk_noK at h
    rw [Bool.and_eq_true] at h
    have h1 : Nat.beq w.1 k = false := by simpa using h.1
    unfold nk_off
    have : nk_cov w k j = false := by
      unfold nk_cov
      rw [h1]
      rfl
    rw [this]
    exact nk_noK_ok h.2 j
def nk_tokB (W : nkWs) (kn kt fA fS fT fX : Nat) : Bool := nk_off W kn fA && (nk_off W kn fS && (nk_off W kn fT && (nk_off W kn fX && nk_noK W kt)))
theorem nkTok.kept {E : nkE} {W : nkWs} {H H1 : Heap} {a fA fS fT fX ci n P kt : Nat} {ts els : List nkV} {kn : Nat} (h : nkTok E H a fA fS fT fX) (hkn : E.2.2 a = kn) (hb : nk_tokB W kn kt fA fS fT fX = true) (hK : nkKp E W H H1) (h0 : nkHc E H) (h1 : nkHc E H1) (hk : E.2.1[kn]? = some (0, ci, n, P, ts)) (hkt : E.2.1[kt]? = some (1, 1, 1600, 1, els)) (hX : ts.getD fX (8, 0, 0) = (2, kt, 0)) (hT : fT < n) (hXn : fX < n) : nkTok E H1 a fA fS fT fX := by
  unfold nk_tokB at hb
  simp only [Bool.and_eq_true] at hb
  obtain ⟨b1, b2, b3, b4, b5⟩ := hb
  have hka : E.2.1[E.2.2 a]? = some (0, ci, n, P, ts) := by rw [hkn]; exact hk
  intro h5
  obtain ⟨x0, g1, -⟩ := nkFd.some h0 hka hT
  have e0 := (g1.kept hK (by rw [hkn]; exact b3)).fn h5
  subst e0
  obtain ⟨j, sz, t, z, x, q1, q2, q3, q4, q5, q6, q7, q8⟩ := h g1
  obtain ⟨y0, g2, g3⟩ := nkFd.some h0 hka hXn
  have e1 := g2.fn q5
  subst e1
  rw [hX] at g3
  obtain ⟨t', et, hΓ⟩ := nk_rf g3
  cases et
  have hkt' : E.2.1[E.2.2 t]? = some (1, 1, 1600, 1, els) := by rw [hΓ]; exact hkt
  obtain ⟨z1, hz1, -⟩ : ∃ z : Nat → Value, H1[t]? = some (arrV (E.1.2.2 1) 1600 z) ∧ True := by
    obtain ⟨z1, hz1, -⟩ := h1 t _ hkt'
    exact ⟨z1, hz1, trivial⟩
  have k1 : z1 j = z j := nk_kpA hK hkt' (by rw [hΓ]; exact nk_noK_ok b5 j) (by omega) q6 hz1
  exact ⟨j, sz, t, z1, x, q1.kept hK (by rw [hkn]; exact b1), q2.kept hK (by rw [hkn]; exact b2), q3, q4, q5.kept hK (by rw [hkn]; exact b4), hz1, by rw [k1]; exact q7, q8⟩
/-- what pushE() and emit() write: at the place of the counter (3), into both rows (4, 5), their arguments (1, 2) -/
def nkPuQ (E : nkE) (ρ : Nat → Value) (H H1 : Heap) (N : Nat) : Prop := ∀ (aw av n : Nat) (zw zs : Nat → Value), ρ 4 = .ref aw → ρ 5 = .ref av → ρ 3 = .int (nI n) → n < N → H[aw]? = some (arrV (E.1.2.2 0) N zw) → H[av]? = some (arrV (E.1.2.2 0) N zs) → ∃ zw' zs' : Nat → Value, H1[aw]? = some (arrV (E.1.2.2 0) N zw') ∧ H1[av]? = some (arrV (E.1.2.2 0) N zs') ∧ ∀ j, j < N → zw' j = updV zw n (ρ 1) j ∧ zs' j = updV zs n (ρ 2) j
theorem nk_cel1 {E : nkE} {H : Heap} (h : nkHc E H) {a ti N : Nat} {v : nkV} (hk : E.2.1[E.2.2 a]? = some (1, ti, N, 1, [v])) : ∃ z : Nat → Value, H[a]? = some (arrV (E.1.2.2 ti) N z) ∧ ∀ j, j < N → nkOk E.2.2 v (z j) := by
  obtain ⟨z, hz, ht⟩ := h a _ hk
  exact ⟨z, hz, fun j hj => by
    have h1 := ht j hj
    rw [nk_ty1 rfl rfl] at h1
    exact h1⟩
