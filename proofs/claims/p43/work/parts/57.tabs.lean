/-! another table of kinds for the same heap; stores by hand -/
def nk_simB : List nkKd → List nkKd → Bool
  | [], [] => true
  | a :: r, b :: s => Nat.beq a.1 b.1 && (Nat.beq a.2.1 b.2.1 && (Nat.beq a.2.2.1 b.2.2.1 && nk_simB r s))
  | _, _ => false
theorem nk_sim_len : ∀ {a b : List nkKd}, nk_simB a b = true → a.length = b.length
  | [], [], _ => rfl
  | x :: r, y :: s, h => by
    unfold nk_simB at h
    simp only [Bool.and_eq_true] at h
    rw [List.length_cons, List.length_cons, nk_sim_len h.2.2.2]
  | [], _ :: _, h => by cases h
  | _ :: _, [], h => by cases h
theorem nk_sim_get : ∀ {a b : List nkKd} {i : Nat} {k : nkKd}, nk_simB a b = true → a[i]? = some k → ∃ k', b[i]? = some k' ∧ k'.1 = k.1 ∧ k'.2.1 = k.2.1 ∧ k'.2.2.1 = k.2.2.1
  | [], _, i, k, _, g => by simp at g
  | x :: r, y :: s, 0, k, h, g => by
    unfold nk_simB at h
    simp only [Bool.and_eq_true] at h
    have g : some x = some k := g
    cases g
    exact ⟨y, rfl, (Nat.eq_of_beq_eq_true h.1).symm, (Nat.eq_of_beq_eq_true h.2.1).symm, (Nat.eq_of_beq_eq_true h.2.2.1).symm⟩
  | x :: r, y :: s, i + 1, k, h, g => by
    unfold nk_simB at h
    simp only [Bool.and_eq_true] at h
    obtain ⟨k', h1, h2⟩ := nk_sim_get (i := i) (k := k) h.2.2.2 (by simpa using g)
    exact ⟨k', by simpa using h1, h2⟩
  | x :: r, [], _, _, h, _ => by cases h
theorem nkSl_sw {D : nhD} {k k' : nkKd} (h1 : k'.1 = k.1) (h2 : k'.2.1 = k.2.1) (f : Nat) : nkSl D k' f = nkSl D k f := by
  unfold nkSl
  rw [h1, h2]
section NK57
variable {D : nhD} {Γ : Nat → Nat} {kd kd' : List nkKd}
theorem nkKp.sw (hs : nk_simB kd' kd = true) {Ws : nkWs} {H0 H : Heap} (g : nkKp (D, kd, Γ) Ws H0 H) : nkKp (D, kd', Γ) Ws H0 H := fun a k f cell x q1 q2 q3 q4 q5 => by
  obtain ⟨k', e1, e2, e3, e4⟩ := nk_sim_get hs q1
  have hS := nkSl_sw (D := D) e2 e3 f
  obtain ⟨c', r1, r2⟩ := g a k' f cell x e1 (by rw [e4]; exact q2) q3 q4 (by show cell.slots[nkSl D k' f]? = _; rw [hS]; exact q5)
  refine ⟨c', r1, ?_⟩
  have r2 : c'.slots[nkSl D k' f]? = some x := r2
  rw [hS] at r2
  exact r2
theorem nkFr.sw (hs : nk_simB kd' kd = true) {Ws : nkWs} {H0 H : Heap} {locs : List Loc} (g : nkFr (D, kd, Γ) Ws H0 H locs) : nkFr (D, kd', Γ) Ws H0 H locs := by
  have hl := nk_sim_len hs
  obtain ⟨g1, g2, g3, g4⟩ := g
  refine ⟨g1, fun q hq => g2 q ?_, fun q hq => ?_, g4.sw hs⟩
  · have hq : kd'.length ≤ Γ q := hq
    show kd.length ≤ Γ q
    omega
  · have := g3 q hq
    have : Γ q.base < kd.length := this
    show Γ q.base < kd'.length
    omega
theorem nkMe.sw (hs : nk_simB kd kd' = true) {n : Nat} {ρ : Nat → Value} {H : Heap} {me : List nkMm} (g : nkMe (D, kd, Γ) n ρ H me) : nkMe (D, kd', Γ) n ρ H me := fun q hq => by
  obtain ⟨h1, h2, a, k, cell, e1, e2, e3, e4, e5⟩ := g q hq
  obtain ⟨k', f1, f2, f3, f4⟩ := nk_sim_get hs e2
  refine ⟨h1, h2, a, k', cell, e1, f1, by rw [f4]; exact e3, e4, ?_⟩
  have e5 : cell.slots[nkSl D k q.2.1]? = some (ρ q.2.2) := e5
  show cell.slots[nkSl D k' q.2.1]? = some (ρ q.2.2)
  rw [nkSl_sw f2 f3]
  exact e5
theorem nkA_sw (hl : kd'.length = kd.length) : nkA (D, kd', Γ) = nkA (D, kd, Γ) := by
  unfold nkA
  dsimp only
  rw [hl]
theorem nkZ.sw (hl : kd'.length = kd.length) {U : State} (h : nkZ (D, kd, Γ) U) : nkZ (D, kd', Γ) U := by
  unfold nkZ at h ⊢
  rw [nkA_sw hl]
  dsimp only at h ⊢
  rw [hl]
  exact h
theorem nkHc2.sw (hl : kd'.length = kd.length) {p : Program} {R : Room} {s : State} {m : MethodId} {args : Array Value} {meth : Method} {c : Code} {cc : ByteArray} {spt : List (Nat × nkSp)} {mn : Nat} {y : nhMth} {fr lo : Nat} (h : nkHc2 p R s m args meth c cc (D, kd, Γ) spt mn y fr lo) : nkHc2 p R s m args meth c cc (D, kd', Γ) spt mn y fr lo := by
  obtain ⟨h1, ⟨g1, g2, g3⟩, h3⟩ := h
  exact ⟨h1, ⟨g1, g2.sw hl, g3⟩, h3⟩
theorem nkR.sw (hs : nk_simB kd kd' = true) (hs' : nk_simB kd' kd = true) {nL : Nat} {Ws : nkWs} {H0 : Heap} {S : nkS} {ρ : Nat → Value} {H : Heap} {locs : List Loc} {ls : Array Slot} {st : List Value} (hH : nkH (D, kd', Γ) H) (h : nkR (D, kd, Γ) nL Ws H0 S ρ H locs ls st) : nkR (D, kd', Γ) nL Ws H0 S ρ H locs ls st :=
  ⟨⟨h.1.1, h.1.2.1.sw hs, h.1.2.2.1, h.1.2.2.2.1, hH⟩, h.2.1, h.2.2.1, h.2.2.2.sw hs'⟩
theorem nkHc.upd {H : Heap} (h : nkHc (D, kd, Γ) H) {i : Nat} {k' : nkKd} (hk : kd' = kd.set i k') (hc : ∀ a, Γ a = i → nkCell D Γ k' a H) : nkHc (D, kd', Γ) H := fun a k ha => by
  have ha : kd'[Γ a]? = some k := ha
  rw [hk] at ha
  by_cases e : Γ a = i
  · rw [e] at ha
    by_cases hl : i < kd.length
    · rw [List.getElem?_set_self hl] at ha
      cases ha
      exact hc a e
    · rw [List.getElem?_eq_none (by rw [List.length_set]; omega)] at ha
      cases ha
  · rw [List.getElem?_set_ne (Ne.symm e)] at ha
    exact h a k ha
end NK57
section NK57b
variable {p : Program} {l : Launch} {e : Env} {R : Room} {s : State} {m : MethodId} {args : Array Value} {below : List Frame} {meth : Method} {c : Code} {Q : State → Prop}
variable {cc : ByteArray} {E : nkE} {nL own : Nat} {Ws : nkWs} {H0 : Heap} {S : nkS} {ρ : Nat → Value} {H : Heap} {locs : List Loc} {ls : Array Slot} {st : List Value} {pc : Nat}
/-- a store into an array of ints, by hand -/
theorem nk_hAst (hF : nhFx p c s m args cc nL own E.1) (hd : decode cc pc = .ok (.iastore, 1)) {yv x o : Nat} {rest : List Nat} (hst : S.2.2.2.1 = yv :: x :: o :: rest) (hR : nkR E nL Ws H0 S ρ H locs ls st) {a n P : Nat} {els : List nkV} (ea : ρ o = .ref a) (hk : E.2.1[E.2.2 a]? = some (1, 0, n, P, els)) {z : Nat → Value} (hz : H[a]? = some (arrV (E.1.2.2 0) n z)) {j : Int32} (ej : ρ x = .int j) (h1 : 0 ≤ j.toInt) (h2 : j.toInt < n) {v : Int32} (ev : ρ yv = .int v) (hok : nkOk E.2.2 (nk_ty (1, 0, n, P, els) j.toNatClampNeg) (.int v)) {kn : Nat} (hkn : E.2.2 a = kn) (hcv : nk_cvR Ws kn 0 (n - 1) = true) (hwk : nk_wok E.2.1 kn = true)
    (k : ∀ (H' : Heap) (locs' : List Loc) (st' : List Value), H'[a]? = some (arrV (E.1.2.2 0) n (updV z j.toNatClampNeg (.int v))) → (∀ q : Nat, q ≠ a → H'[q]? = H[q]?) → nkR E nL Ws H0 (S.1, S.2.1, S.2.2.1, rest, S.2.2.2.2.1.filter (nk_kpM S kn 0 (n - 1)), S.2.2.2.2.2) ρ H' locs' ls st' → W p l e R s m args below meth c H' locs' 0 0 Q (F0 m (pc + 1) ls st')) : W p l e R s m args below meth c H locs 0 0 Q (F0 m pc ls st) := by
  obtain ⟨hx, hb, hml, ⟨C, hC, hown⟩, hts, hK⟩ := hF
  have hs := hR.2.2.1
  rw [hst] at hs
  obtain ⟨ly, st0, rfl, hs0⟩ := hs.inv1
  obtain ⟨lx, st1, rfl, hs1⟩ := hs0.inv1
  obtain ⟨lo, st2, rfl, hs2⟩ := hs1.inv1
  have hix := nh_ix (j := j) (n := n) h1 h2
  have hjn : j.toNatClampNeg < n := by omega
  obtain ⟨z', hz1, hz2⟩ := hR.1.2.2.2.2.1 a _ hk
  dsimp only at hz1 hz2
  rw [hz] at hz1
  have hzz : ∀ i, i < n → z' i = z i := fun i hi => by
    have h5 := arrV_read (E.1.2.2 0) z hi
    have h6 := arrV_read (E.1.2.2 0) z' hi
    have h7 := Option.some.inj hz1
    rw [h7, h6] at h5
    exact Option.some.inj h5
  rw [ea, ej, ev]
  refine nk_astW hx hb hK (i := .iastore) (ti := 0) (w := nk_fl) (w' := (true, nk_fl)) rfl (nk_fl_ok E.2.2 v) hz h1 h2 hd (fun H' x2 ok2 ox2 e1 e2 e3 => ?_)
  have ex2 : x2 = .int v := ox2 rfl
  subst ex2
  have hWr : nkWr E a (1, 0, n, P, els) 0 (n - 1) H H' := ⟨hk, e2, e3, fun f cell1 v g1 g2 g3 g4 => by
    have g1 : f < n := g1
    rcases g2 with g2 | g2 <;> omega⟩
  obtain ⟨⟨b1, b2, b3, b4, b5⟩, b6, b7, b8⟩ := hR
  have hm := hWr.me (S := S) b1 b2
  rw [hkn] at hm
  refine k H' _ _ e1 e3 ⟨⟨b1, hm, b3, b4, hWr.hp (by rw [hkn]; exact hwk) b5 ⟨updV z j.toNatClampNeg (.int v), e1, fun i' hi' => ?_⟩⟩, b6, hs2, hWr.fr (by rw [hkn]; exact hcv) b8⟩
  by_cases e4 : i' = j.toNatClampNeg
  · subst e4
    simp only [updV, if_true]
    exact hok
  · simp only [updV, if_neg e4]
    rw [← hzz i' hi']
    exact hz2 i' hi'
end NK57b
/-- what an end says, in another pattern's words -/
theorem nk_entT {E : nkE} {Ws : nkWs} {H0 : Heap} {S P : nkS} {ρ : Nat → Value} {H : Heap} {np : Nat} {σ : nkSg} (h : nk_ent np P S = some σ) (hlo : S.2.2.1 = []) (hT : nkT E S ρ H) (hst : ∀ i ∈ S.2.2.2.1, i < S.1) : nkT E P (nk_pk σ ρ) H ∧ nkX np ρ (nk_pk σ ρ) := by
  have hR : nkR E 0 [] H S ρ H [] #[] (S.2.2.2.1.map ρ) := ⟨hT, ⟨rfl, ⟨fun i v h _ => by simp at h, fun i h => by simp at h⟩, by rw [hlo]; exact fun q hq => by cases hq⟩, ⟨rfl, hst⟩, rfl, fun _ _ => rfl, (fun q hq => by cases hq), nkKp.rf _ _ _⟩
  obtain ⟨h1, h2, -, -⟩ := nk_ent_ok h hR
  exact ⟨h1.1, h2⟩
