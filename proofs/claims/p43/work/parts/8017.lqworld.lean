/-! the world between two calls of the law -/
def lqI (D : nhD) (Γ : Nat → Nat) (km X M h : Nat) (tx tm : Int32) (H : Heap) : Prop := nkH (D, nkKds, Γ) H ∧ (Γ X = 10 ∧ Γ M = km ∧ Γ h = 2) ∧ nkFd (D, nkKds, Γ) H X 7 (.ref h) ∧ (∃ p a : Nat, nkFd (D, nkKds, Γ) H h 2 (.int (nI p)) ∧ nkFd (D, nkKds, Γ) H h 3 (.int (nI a)) ∧ p + a ≤ 40) ∧ (∃ p a : Nat, nkFd (D, nkKds, Γ) H M 44 (.int (nI p)) ∧ nkFd (D, nkKds, Γ) H M 45 (.int (nI a)) ∧ p + a ≤ 40) ∧ nkFd (D, nkKds, Γ) H X 14 (.int tx) ∧ nkFd (D, nkKds, Γ) H M 61 (.int tm)
def lqN (s : State) (Γ : Nat → Nat) (H : Heap) (locs : List Loc) : Prop := (∀ q : Nat, q < s.heap.size → 84 ≤ Γ q) ∧ s.heap.size ≤ H.size ∧ (∀ q : Nat, 84 ≤ Γ q → H[q]? = s.heap[q]?) ∧ ∀ l ∈ locs, s.heap.size ≤ l.base
def lqJ (s : State) (D : nhD) (X M h : Nat) (tx tm : Int32) (H : Heap) (locs : List Loc) : Prop := ∃ (Γ : Nat → Nat) (km : Nat), ((km = 40 ∧ nkb0_pu Γ) ∨ (km = 41 ∧ nkb1_pu Γ)) ∧ nkZ (D, nkKds, Γ) s ∧ lqN s Γ H locs ∧ lqI D Γ km X M h tx tm H
def lqW (s : State) (D : nhD) (X M h : Nat) (H : Heap) (locs : List Loc) : Prop := ∃ t : Int32, lqJ s D X M h t t H locs
theorem lqN.S {s : State} {Γ : Nat → Nat} {H : Heap} {locs : List Loc} (h : lqN s Γ H locs) : va_S (fun q : Nat => s.heap.size ≤ q) s.heap H locs := ⟨h.2.1, fun q hq _ => h.2.2.1 q (h.1 q hq), h.2.2.2⟩
theorem lqN.next {s : State} {D : nhD} {Γ : Nat → Nat} {W : nkWs} {H H1 : Heap} {locs locs1 : List Loc} (h : lqN s Γ H locs) (hF : nkFr (D, nkKds, Γ) W H H1 []) (hl : ∀ q ∈ locs1, q ∈ locs ∨ Γ q.base < 84) : lqN s Γ H1 locs1 := ⟨h.1, by rw [hF.1]; exact h.2.1, fun q hq => (hF.2.1 q hq).trans (h.2.2.1 q hq), fun q hq => by
  rcases hl q hq with g | g
  · exact h.2.2.2 q g
  · rcases Nat.lt_or_ge q.base s.heap.size with z | z
    · have := h.1 _ z
      omega
    · exact z⟩
theorem lq_fk {D : nhD} {Γ : Nat → Nat} {W : nkWs} {H H1 : Heap} (hk : nkKp (D, nkKds, Γ) W H H1) {a f g : Nat} {x : Value} (hg : Γ a = g) (ho : nk_off W g f = true) (h : nkFd (D, nkKds, Γ) H a f x) : nkFd (D, nkKds, Γ) H1 a f x := h.kept hk (by show nk_off W (Γ a) f = true; rw [hg]; exact ho)
def lq_offT (W : nkWs) : Bool := nk_off W 10 7 && (nk_off W 10 14 && (nk_off W 40 61 && nk_off W 41 61))
def lq_offX (W : nkWs) : Bool := nk_off W 2 2 && nk_off W 2 3
def lq_offM (W : nkWs) : Bool := nk_off W 40 44 && (nk_off W 40 45 && (nk_off W 41 44 && nk_off W 41 45))
section LQI
variable {D : nhD} {Γ : Nat → Nat} {km X M h : Nat} {tx tm : Int32} {H H1 : Heap} {W : nkWs}
theorem lq_two {W : nkWs} {f : Nat} (hkm : km = 40 ∨ km = 41) (h0 : nk_off W 40 f = true) (h1 : nk_off W 41 f = true) : nk_off W km f = true := by
  rcases hkm with rfl | rfl
  · exact h0
  · exact h1
theorem lq_kT (hI : lqI D Γ km X M h tx tm H) (hkm : km = 40 ∨ km = 41) (ho : lq_offT W = true) (hk : nkKp (D, nkKds, Γ) W H H1) : nkFd (D, nkKds, Γ) H1 X 7 (.ref h) ∧ nkFd (D, nkKds, Γ) H1 X 14 (.int tx) ∧ nkFd (D, nkKds, Γ) H1 M 61 (.int tm) := by
  obtain ⟨-, ⟨g1, g2, g3⟩, f1, -, -, f4, f5⟩ := hI
  simp only [lq_offT, Bool.and_eq_true] at ho
  obtain ⟨o1, o2, o3, o4⟩ := ho
  exact ⟨lq_fk hk g1 o1 f1, lq_fk hk g1 o2 f4, lq_fk hk g2 (lq_two hkm o3 o4) f5⟩
theorem lq_kX (hI : lqI D Γ km X M h tx tm H) (ho : lq_offX W = true) (hk : nkKp (D, nkKds, Γ) W H H1) : ∃ p a : Nat, nkFd (D, nkKds, Γ) H1 h 2 (.int (nI p)) ∧ nkFd (D, nkKds, Γ) H1 h 3 (.int (nI a)) ∧ p + a ≤ 40 := by
  obtain ⟨-, ⟨g1, g2, g3⟩, f1, ⟨p, a, f2, f3, f4⟩, -⟩ := hI
  simp only [lq_offX, Bool.and_eq_true] at ho
  exact ⟨p, a, lq_fk hk g3 ho.1 f2, lq_fk hk g3 ho.2 f3, f4⟩
theorem lq_kM (hI : lqI D Γ km X M h tx tm H) (hkm : km = 40 ∨ km = 41) (ho : lq_offM W = true) (hk : nkKp (D, nkKds, Γ) W H H1) : ∃ p a : Nat, nkFd (D, nkKds, Γ) H1 M 44 (.int (nI p)) ∧ nkFd (D, nkKds, Γ) H1 M 45 (.int (nI a)) ∧ p + a ≤ 40 := by
  obtain ⟨-, ⟨g1, g2, g3⟩, f1, -, ⟨p, a, f2, f3, f4⟩, -⟩ := hI
  simp only [lq_offM, Bool.and_eq_true] at ho
  obtain ⟨o1, o2, o3, o4⟩ := ho
  exact ⟨p, a, lq_fk hk g2 (lq_two hkm o1 o3) f2, lq_fk hk g2 (lq_two hkm o2 o4) f3, f4⟩
end LQI
/-! patterns of entry, by program -/
def lq_eqS (P Q : nkS) : Bool := decide (P.1 = Q.1) && (decide (P.2.1 = Q.2.1) && (decide (P.2.2.1 = Q.2.2.1) && (decide (P.2.2.2.1 = Q.2.2.2.1) && (decide (P.2.2.2.2.1 = Q.2.2.2.2.1) && (decide (P.2.2.2.2.2.1 = Q.2.2.2.2.2.1) && decide (P.2.2.2.2.2.2 = Q.2.2.2.2.2.2))))))
theorem lq_eqS_ok {P Q : nkS} (h : lq_eqS P Q = true) : P = Q := by
  obtain ⟨a, b, c, d, e, f, g⟩ := P
  obtain ⟨a', b', c', d', e', f', g'⟩ := Q
  simp only [lq_eqS, Bool.and_eq_true, decide_eq_true_eq] at h
  obtain ⟨rfl, rfl, rfl, rfl, rfl, rfl, rfl⟩ := h
  rfl
def lq_P (k0 : Nat) (ds : List Bool) : nkS := (1 + ds.length, ((2, k0, 0) :: ds.map lq_ty).reverse, [], [], [], [], [])
def lq_PX (ds : List Bool) (plo phi alo ahi : Nat) : nkS := (1 + ds.length + 3, (((2, 10, 0) :: ds.map lq_ty) ++ [(2, 2, 0), (0, plo, phi), (0, alo, ahi)]).reverse, [], [], [(0, 7, 1 + ds.length), (1 + ds.length, 2, 1 + ds.length + 1), (1 + ds.length, 3, 1 + ds.length + 2)], [], [])
def lq_PM (k0 : Nat) (ds : List Bool) (plo phi alo ahi : Nat) : nkS := (1 + ds.length + 2, (((2, k0, 0) :: ds.map lq_ty) ++ [(0, plo, phi), (0, alo, ahi)]).reverse, [], [], [(0, 44, 1 + ds.length), (0, 45, 1 + ds.length + 1)], [], [])
def lq_ans (F : nkS) : Bool := match F.2.2.2.1 with
  | [r] => match nk_g F.2.1 F.1 r with
    | some v => (nk_iv v).isSome
    | none => false
  | _ => false
theorem lq_ans_ok {F : nkS} (h : lq_ans F = true) {E : nkE} {ρ : Nat → Value} {H : Heap} {v : Option Value} (hT : nkT E F ρ H) (hv : nkRt F ρ v) : ∃ z : Int32, v = some (.int z) := by
  unfold lq_ans at h
  unfold nkRt at hv
  split at h
  · rename_i r hr
    rw [hr] at hv
    split at h
    · rename_i w hw
      obtain ⟨q, hq⟩ := Option.isSome_iff_exists.mp h
      obtain ⟨z, ez, -⟩ := nk_iv_ok hq (hT.1 r w hw)
      exact ⟨z, by rw [hv.2, ez]⟩
    · cases h
  · cases h
def lq_simB (en : nkIn) (k0 : Nat) (ds : List Bool) : Bool := lq_eqS en.2.2.2.2.1 (lq_P k0 ds) && (Nat.beq en.2.2.2.1 (1 + ds.length) && (en.2.2.2.2.2.2.all lq_ans && (lq_offT en.2.2.2.2.2.1 && (lq_offX en.2.2.2.2.2.1 && lq_offM en.2.2.2.2.2.1))))
def lq_me (o f : Nat) : List nkMm → Option Nat
  | [] => none
  | q :: r => match Nat.beq q.1 o && Nat.beq q.2.1 f with
    | true => some q.2.2
    | false => lq_me o f r
theorem lq_me_ok {o f x : Nat} : ∀ {me : List nkMm}, lq_me o f me = some x → (o, f, x) ∈ me
  | [], h => by cases h
  | q :: r, h => by
    unfold lq_me at h
    split at h
    · rename_i hc
      rw [Bool.and_eq_true] at hc
      have e1 := Nat.eq_of_beq_eq_true hc.1
      have e2 := Nat.eq_of_beq_eq_true hc.2
      obtain ⟨a, b, c⟩ := q
      dsimp only at e1 e2 h
      have h := Option.some.inj h
      subst e1 e2 h
      exact List.mem_cons_self
    · exact List.mem_cons_of_mem _ (lq_me_ok h)
def lq_sum (F : nkS) (i j u w : Nat) : Bool := (Nat.beq i u && Nat.beq j w) || (match nk_g F.2.1 F.1 i, nk_g F.2.1 F.1 j with
  | some a, some b => match nk_iv a, nk_iv b with
    | some q, some r => Nat.ble 18446744073709551616 q.1 && (Nat.ble 18446744073709551616 r.1 && Nat.ble (q.2 + r.2) 36893488147419103272)
    | _, _ => false
  | _, _ => false)
theorem lq_sum_ok {Γ : Nat → Nat} {F : nkS} {i j u w : Nat} (h : lq_sum F i j u w = true) {ρ : Nat → Value} (hA : nkAll Γ F.1 F.2.1 ρ) {p a : Nat} (hu : ρ u = .int (nI p)) (hw : ρ w = .int (nI a)) (hpa : p + a ≤ 40) : ∃ p' a' : Nat, ρ i = .int (nI p') ∧ ρ j = .int (nI a') ∧ p' + a' ≤ 40 := by
  unfold lq_sum at h
  rw [Bool.or_eq_true] at h
  rcases h with h | h
  · rw [Bool.and_eq_true] at h
    have e1 := Nat.eq_of_beq_eq_true h.1
    have e2 := Nat.eq_of_beq_eq_true h.2
    subst e1 e2
    exact ⟨p, a, hu, hw, hpa⟩
  · split at h
    · rename_i va vb ha hb
      split at h
      · rename_i q r hq hr
        simp only [Bool.and_eq_true] at h
        obtain ⟨h1, h2, h3⟩ := h
        have h1 := Nat.le_of_ble_eq_true h1
        have h2 := Nat.le_of_ble_eq_true h2
        have h3 := Nat.le_of_ble_eq_true h3
        obtain ⟨x, ex, x1, x2⟩ := nk_iv_ok hq (hA i va ha)
        obtain ⟨y, ey, y1, y2⟩ := nk_iv_ok hr (hA j vb hb)
        obtain ⟨p', -, ep, fp⟩ := nh_nI (x := x) (by omega)
        obtain ⟨a', -, ea, fa⟩ := nh_nI (x := y) (by omega)
        exact ⟨p', a', by rw [ex, ep], by rw [ey, ea], by omega⟩
      · cases h
    · cases h
def lq_altX (n : Nat) (F : nkS) : Bool := lq_ans F && (match lq_me n 2 F.2.2.2.2.1, lq_me n 3 F.2.2.2.2.1 with
  | some i, some j => lq_sum F i j (n + 1) (n + 2)
  | _, _ => false)
def lq_altM (n : Nat) (F : nkS) : Bool := lq_ans F && (match lq_me 0 44 F.2.2.2.2.1, lq_me 0 45 F.2.2.2.2.1 with
  | some i, some j => lq_sum F i j n (n + 1)
  | _, _ => false)
def lq_acXB (en : nkIn) (ds : List Bool) (plo phi alo ahi : Nat) : Bool := lq_eqS en.2.2.2.2.1 (lq_PX ds plo phi alo ahi) && (Nat.beq en.2.2.2.1 (1 + ds.length) && (en.2.2.2.2.2.2.all (lq_altX (1 + ds.length)) && (lq_offT en.2.2.2.2.2.1 && lq_offM en.2.2.2.2.2.1)))
def lq_acMB (en : nkIn) (k0 : Nat) (ds : List Bool) (plo phi alo ahi : Nat) : Bool := lq_eqS en.2.2.2.2.1 (lq_PM k0 ds plo phi alo ahi) && (Nat.beq en.2.2.2.1 (1 + ds.length) && (en.2.2.2.2.2.2.all (lq_altM (1 + ds.length)) && (lq_offT en.2.2.2.2.2.1 && lq_offX en.2.2.2.2.2.1)))
def lq_mB (idx : Nat) (en : nkIn) (n ci : Nat) : Bool := decide (nh_find (nhLn.getD 20 []) idx = some en.1) && (match nhMt[en.1]?, nhCl[ci]? with
  | some y, some r => decide (y.2.2.2.2.1 = false ∧ y.2.2.2.2.2 = n ∧ r.1 = y.1.cls ∧ en.2.1 + 1 ≤ 2048 ∧ 8 + (y.2.2.1 + 11) + en.2.2.1 ≤ 84000)
  | _, _ => false)
/-! rows of values -/
theorem lq_rng (l1 l2 : List Value) {n : Nat} (hn : l1.length = n) : (List.range n).map (fun i => (l1 ++ l2).getD i .null) = l1 := by
  subst hn
  apply List.ext_getElem?
  intro i
  rw [List.getElem?_map]
  by_cases h : i < l1.length
  · rw [List.getElem?_range h, List.getElem?_eq_getElem h]
    show some ((l1 ++ l2).getD i .null) = _
    rw [List.getD_eq_getElem?_getD, List.getElem?_append_left h, List.getElem?_eq_getElem h]
    rfl
  · rw [List.getElem?_eq_none (by rw [List.length_range]; omega), List.getElem?_eq_none (by omega)]
    rfl
theorem lq_getA (l1 l2 : List Value) {n : Nat} (hn : l1.length = n) (j : Nat) : (l1 ++ l2).getD (n + j) .null = l2.getD j .null := by
  subst hn
  rw [List.getD_eq_getElem?_getD, List.getD_eq_getElem?_getD, List.getElem?_append_right (Nat.le_add_right _ _), Nat.add_sub_cancel_left]
theorem lq_me1 {E : nkE} {n : Nat} {ρ : Nat → Value} {H : Heap} {o f x a : Nat} {v : Value} (ho : o < n) (hx : x < n) (ea : ρ o = .ref a) (ev : ρ x = v) (h : nkFd E H a f v) : o < n ∧ x < n ∧ ∃ (a : Nat) (k : nkKd) (cell : Cell), ρ o = .ref a ∧ E.2.1[E.2.2 a]? = some k ∧ f < k.2.2.1 ∧ H[a]? = some cell ∧ cell.slots[nkSl E.1 k f]? = some (ρ x) := by
  obtain ⟨k, cell, h1, h2, h3, h4⟩ := h
  exact ⟨ho, hx, a, k, cell, ea, h1, h2, h3, by rw [ev]; exact h4⟩
section LQC
variable {p : Program} {l : Launch} {e : Env} {s : State} {m : MethodId} {b : Nat} {below : List Frame} {meth : Method} {c : Code} {Q : State → Prop} {D : nhD} {H : Heap} {locs : List Loc} {ls : Array Slot} {pc : Nat} {Γ : Nat → Nat} {rest : List Value}
theorem lq_callI (hF : nhFx p c s m #[Value.ref b] code 4 20 D) (hls : ls.size = 4) {en : nkIn} (hM : nkMetI nkKds en) (hZ : nkZ (D, nkKds, Γ) s) (hun : ∀ q : Nat, 84 ≤ Γ q → H[q]? = s.heap[q]?) {idx ci n : Nat} (hB : lq_mB idx en n ci = true) (hd : decode code pc = .ok (.invokevirtual idx, 3)) {ρ : Nat → Value} {a : Nat} {As : List Value} (hargs : (List.range en.2.2.2.1).map ρ = .ref a :: As) (hAs : As.length = n) (hT : nkT (D, nkKds, Γ) en.2.2.2.2.1 ρ H) {N P : Nat} {ts : List nkV} (hk : nkKds[Γ a]? = some (0, ci, N, P, ts)) (hcat : (rest.map fun v => v.category).sum ≤ 8)
    (k : ∀ (v : Option Value) (F : nkS) (ρ' : Nat → Value) (H1 : Heap) (locs1 : List Loc), F ∈ en.2.2.2.2.2.2 → nkX en.2.2.2.2.1.1 ρ ρ' → nkT (D, nkKds, Γ) F ρ' H1 → nkRt F ρ' v → nkFr (D, nkKds, Γ) en.2.2.2.2.2.1 H H1 [] → (∀ q ∈ locs1, q ∈ locs ∨ Γ q.base < 84) → W p l e room_1 s m #[Value.ref b] below meth c H1 locs1 600000 7302250 Q (F0 m (pc + 3) ls (v.toList ++ rest))) :
    W p l e room_1 s m #[Value.ref b] below meth c H locs 600000 7302250 Q (F0 m pc ls (As.reverse ++ .ref a :: rest)) := by
  unfold lq_mB at hB
  rw [Bool.and_eq_true] at hB
  obtain ⟨hfd, hB⟩ := hB
  have hfd := of_decide_eq_true hfd
  split at hB
  · rename_i y r hy hr
    obtain ⟨c1, c2, c3, c4, c5⟩ := of_decide_eq_true hB
    obtain ⟨V, hV, -⟩ := hT.2.2.2.2.1 a _ hk
    refine lq_callM hF hy (nh_find_ok hfd) hd c1 (fr := en.2.1) (lo := en.2.2.1) c4 c5 (hM.1 y hy l D Γ ρ) (nkPc_blind _ _ _ _) (by rw [hAs, c2]) (fun U hU hW => ⟨by rw [hargs], by rw [hU]; exact hT, hF.2.2.2.2.2.moved hW.alike, hZ.to hW (fun q hq => by rw [hU]; exact hun q hq)⟩) hls hcat ⟨ci, r, N, V, hr, c3, hV⟩ (Nat.le_refl _) (Nat.le_refl _) (fun v st t locs1 h0 hQ hl => ?_)
    obtain ⟨⟨v', F, ρ', hv, f1, f2, f3, f4, f5⟩, hFr⟩ := hQ
    cases hv
    rw [h0] at hFr
    exact k v F ρ' t.heap locs1 f1 f3 f4 f5 hFr hl
  · cases hB
theorem lq_callG (hF : nhFx p c s m #[Value.ref b] code 4 20 D) (hls : ls.size = 4) {en : nkIn} {Qg : nkE → (Nat → Value) → Heap → Heap → Option Value → nkS → (Nat → Value) → Prop} (hM : nkMetG nkKds en (fun _ _ _ => True) Qg) (hZ : nkZ (D, nkKds, Γ) s) (hun : ∀ q : Nat, 84 ≤ Γ q → H[q]? = s.heap[q]?) {idx ci n : Nat} (hB : lq_mB idx en n ci = true) (hd : decode code pc = .ok (.invokevirtual idx, 3)) {ρ : Nat → Value} {a : Nat} {As : List Value} (hargs : (List.range en.2.2.2.1).map ρ = .ref a :: As) (hAs : As.length = n) (hT : nkT (D, nkKds, Γ) en.2.2.2.2.1 ρ H) {N P : Nat} {ts : List nkV} (hk : nkKds[Γ a]? = some (0, ci, N, P, ts)) (hcat : (rest.map fun v => v.category).sum ≤ 8)
    (k : ∀ (v : Option Value) (F : nkS) (ρ' : Nat → Value) (H1 : Heap) (locs1 : List Loc), nkT (D, nkKds, Γ) F ρ' H1 → nkFr (D, nkKds, Γ) en.2.2.2.2.2.1 H H1 [] → Qg (D, nkKds, Γ) ρ H H1 v F ρ' → (∀ q ∈ locs1, q ∈ locs ∨ Γ q.base < 84) → W p l e room_1 s m #[Value.ref b] below meth c H1 locs1 600000 7302250 Q (F0 m (pc + 3) ls (v.toList ++ rest))) :
    W p l e room_1 s m #[Value.ref b] below meth c H locs 600000 7302250 Q (F0 m pc ls (As.reverse ++ .ref a :: rest)) := by
  unfold lq_mB at hB
  rw [Bool.and_eq_true] at hB
  obtain ⟨hfd, hB⟩ := hB
  have hfd := of_decide_eq_true hfd
  split at hB
  · rename_i y r hy hr
    obtain ⟨c1, c2, c3, c4, c5⟩ := of_decide_eq_true hB
    obtain ⟨V, hV, -⟩ := hT.2.2.2.2.1 a _ hk
    refine lq_callM hF hy (nh_find_ok hfd) hd c1 (fr := en.2.1) (lo := en.2.2.1) c4 c5 (hM.1 y hy l D Γ ρ) (nkPg_blind _ _ _ _ _) (by rw [hAs, c2]) (fun U hU hW => ⟨⟨by rw [hargs], by rw [hU]; exact hT, hF.2.2.2.2.2.moved hW.alike, hZ.to hW (fun q hq => by rw [hU]; exact hun q hq)⟩, trivial⟩) hls hcat ⟨ci, r, N, V, hr, c3, hV⟩ (Nat.le_refl _) (Nat.le_refl _) (fun v st t locs1 h0 hQ hl => ?_)
    obtain ⟨⟨v', F, ρ', hv, f1, f2, f3, f4, f5, f6⟩, hFr⟩ := hQ
    cases hv
    rw [h0] at hFr f6
    exact k v F ρ' t.heap locs1 f4 hFr f6 hl
  · cases hB
/-- a call that no fact of ours is touched by -/
theorem lq_core (hF : nhFx p c s m #[Value.ref b] code 4 20 D) (hls : ls.size = 4) {en : nkIn} (hM : nkMetI nkKds en) {k0 : Nat} {ds : List Bool} (hS : lq_simB en k0 ds = true) {idx ci : Nat} (hB : lq_mB idx en ds.length ci = true) (hd : decode code pc = .ok (.invokevirtual idx, 3)) (hcat : (rest.map fun v => v.category).sum ≤ 8) {km X M h a : Nat} {tx tm : Int32} (hkm : km = 40 ∨ km = 41) (hZ : nkZ (D, nkKds, Γ) s) (hN : lqN s Γ H locs) (hI : lqI D Γ km X M h tx tm H) (ha : Γ a = k0) {N P : Nat} {ts : List nkV} (hk : nkKds[k0]? = some (0, ci, N, P, ts)) (xs : Nat → Int32) (j0 : Nat)
    (k : ∀ (z : Int32) (H1 : Heap) (locs1 : List Loc), lqN s Γ H1 locs1 → lqI D Γ km X M h tx tm H1 → W p l e room_1 s m #[Value.ref b] below meth c H1 locs1 600000 7302250 Q (F0 m (pc + 3) ls (.int z :: rest))) :
    W p l e room_1 s m #[Value.ref b] below meth c H locs 600000 7302250 Q (F0 m pc ls ((lx_vals xs j0 ds).reverse ++ .ref a :: rest)) := by
  simp only [lq_simB, Bool.and_eq_true] at hS
  obtain ⟨s1, s2, s3, s4, s5, s6⟩ := hS
  have s1 := lq_eqS_ok s1
  have s2 := Nat.eq_of_beq_eq_true s2
  have hl1 : (Value.ref a :: lx_vals xs j0 ds).length = 1 + ds.length := by rw [List.length_cons, lx_vlen]; omega
  have hT : nkT (D, nkKds, Γ) (lq_P k0 ds) (fun i => ((Value.ref a :: lx_vals xs j0 ds) ++ []).getD i .null) H := by
    refine ⟨?_, fun q hq => (by cases hq), fun q hq => (by cases hq), fun q hq => (by cases hq), hI.1⟩
    rw [List.append_nil]
    exact lq_allL (vs := (2, k0, 0) :: ds.map lq_ty) (xs := .ref a :: lx_vals xs j0 ds) ⟨⟨a, rfl, ha⟩, lq_okV xs ds j0⟩ (by show 1 + ds.length = _; rw [List.length_cons, List.length_map]; omega)
  rw [← s1] at hT
  refine lq_callI hF hls hM hZ hN.2.2.1 hB hd (by rw [s2]; exact lq_rng _ [] hl1) (lx_vlen xs ds j0) hT (by rw [ha]; exact hk) hcat (fun v F ρ' H1 locs1 f1 f2 f3 f4 f5 hl => ?_)
  obtain ⟨z, rfl⟩ := lq_ans_ok (List.all_eq_true.mp s3 F f1) f3 f4
  obtain ⟨t1, t2, t3⟩ := lq_kT hI hkm s4 f5.2.2.2
  exact k z H1 locs1 (hN.next f5 hl) ⟨f3.2.2.2.2, hI.2.1, t1, lq_kX hI s5 f5.2.2.2, lq_kM hI hkm s6 f5.2.2.2, t2, t3⟩
theorem lq_doX (hF : nhFx p c s m #[Value.ref b] code 4 20 D) (hls : ls.size = 4) {en : nkIn} (hM : nkMetI nkKds en) {ds : List Bool} {idx : Nat} (hB : lq_simB en 10 ds = true ∧ lq_mB idx en ds.length 11 = true) (hd : decode code pc = .ok (.invokevirtual idx, 3)) (hcat : (rest.map fun v => v.category).sum ≤ 8) {X M h : Nat} {tx tm : Int32} (hJ : lqJ s D X M h tx tm H locs) (xs : Nat → Int32) (j0 : Nat)
    (k : ∀ (z : Int32) (H1 : Heap) (locs1 : List Loc), lqJ s D X M h tx tm H1 locs1 → W p l e room_1 s m #[Value.ref b] below meth c H1 locs1 600000 7302250 Q (F0 m (pc + 3) ls (.int z :: rest))) :
    W p l e room_1 s m #[Value.ref b] below meth c H locs 600000 7302250 Q (F0 m pc ls ((lx_vals xs j0 ds).reverse ++ .ref X :: rest)) := by
  obtain ⟨Γ, km, hkm, hZ, hN, hI⟩ := hJ
  exact lq_core hF hls hM hB.1 hB.2 hd hcat (by rcases hkm with h | h; exact Or.inl h.1; exact Or.inr h.1) hZ hN hI hI.2.1.1 (show nkKds[10]? = some nkKds_10 from rfl) xs j0 (fun z H1 locs1 hN1 hI1 => k z H1 locs1 ⟨Γ, km, hkm, hZ, hN1, hI1⟩)
theorem lq_doM (hF : nhFx p c s m #[Value.ref b] code 4 20 D) (hls : ls.size = 4) {en0 en1 : nkIn} (hM0 : nkMetI nkKds en0) (hM1 : nkMetI nkKds en1) {ds : List Bool} {idx : Nat} (hB0 : lq_simB en0 40 ds = true ∧ lq_mB idx en0 ds.length 12 = true) (hB1 : lq_simB en1 41 ds = true ∧ lq_mB idx en1 ds.length 12 = true) (hd : decode code pc = .ok (.invokevirtual idx, 3)) (hcat : (rest.map fun v => v.category).sum ≤ 8) {X M h : Nat} {tx tm : Int32} (hJ : lqJ s D X M h tx tm H locs) (xs : Nat → Int32) (j0 : Nat)
    (k : ∀ (z : Int32) (H1 : Heap) (locs1 : List Loc), lqJ s D X M h tx tm H1 locs1 → W p l e room_1 s m #[Value.ref b] below meth c H1 locs1 600000 7302250 Q (F0 m (pc + 3) ls (.int z :: rest))) :
    W p l e room_1 s m #[Value.ref b] below meth c H locs 600000 7302250 Q (F0 m pc ls ((lx_vals xs j0 ds).reverse ++ .ref M :: rest)) := by
  obtain ⟨Γ, km, hkm, hZ, hN, hI⟩ := hJ
  rcases hkm with ⟨rfl, hp⟩ | ⟨rfl, hp⟩
  · exact lq_core hF hls hM0 hB0.1 hB0.2 hd hcat (Or.inl rfl) hZ hN hI hI.2.1.2.1 (show nkKds[40]? = some nkKds_40 from rfl) xs j0 (fun z H1 locs1 hN1 hI1 => k z H1 locs1 ⟨Γ, 40, Or.inl ⟨rfl, hp⟩, hZ, hN1, hI1⟩)
  · exact lq_core hF hls hM1 hB1.1 hB1.2 hd hcat (Or.inr rfl) hZ hN hI hI.2.1.2.1 (show nkKds[41]? = some nkKds_41 from rfl) xs j0 (fun z H1 locs1 hN1 hI1 => k z H1 locs1 ⟨Γ, 41, Or.inr ⟨rfl, hp⟩, hZ, hN1, hI1⟩)
/-- a call of the class that keeps acts -/
theorem lq_actX (hF : nhFx p c s m #[Value.ref b] code 4 20 D) (hls : ls.size = 4) {ds : List Bool} {idx : Nat} (hsel : ∀ p a : Nat, p + a ≤ 40 → ∃ (en : nkIn) (plo phi alo ahi : Nat), nkMetI nkKds en ∧ (lq_acXB en ds plo phi alo ahi = true ∧ lq_mB idx en ds.length 11 = true) ∧ (plo ≤ p + 18446744073709551616 ∧ p + 18446744073709551616 ≤ phi) ∧ (alo ≤ a + 18446744073709551616 ∧ a + 18446744073709551616 ≤ ahi)) (hd : decode code pc = .ok (.invokevirtual idx, 3)) (hcat : (rest.map fun v => v.category).sum ≤ 8) {X M h : Nat} {tx tm : Int32} (hJ : lqJ s D X M h tx tm H locs) (xs : Nat → Int32) (j0 : Nat)
    (k : ∀ (z : Int32) (H1 : Heap) (locs1 : List Loc), lqJ s D X M h tx tm H1 locs1 → W p l e room_1 s m #[Value.ref b] below meth c H1 locs1 600000 7302250 Q (F0 m (pc + 3) ls (.int z :: rest))) :
    W p l e room_1 s m #[Value.ref b] below meth c H locs 600000 7302250 Q (F0 m pc ls ((lx_vals xs j0 ds).reverse ++ .ref X :: rest)) := by
  obtain ⟨Γ, km, hkm, hZ, hN, hI⟩ := hJ
  have hkm' : km = 40 ∨ km = 41 := by rcases hkm with h | h; exact Or.inl h.1; exact Or.inr h.1
  obtain ⟨hH, ⟨g1, g2, g3⟩, e1, ⟨pp, aa, e2, e3, hpa⟩, -⟩ := id hI
  obtain ⟨en, plo, phi, alo, ahi, hM, ⟨hS, hB⟩, ⟨r1, r2⟩, ⟨r3, r4⟩⟩ := hsel pp aa hpa
  simp only [lq_acXB, Bool.and_eq_true] at hS
  obtain ⟨s1, s2, s3, s4, s6⟩ := hS
  have s1 := lq_eqS_ok s1
  have s2 := Nat.eq_of_beq_eq_true s2
  have hl1 : (Value.ref X :: lx_vals xs j0 ds).length = 1 + ds.length := by rw [List.length_cons, lx_vlen]; omega
  have hpI : (nI pp).toInt = (pp : Int) := nI_toInt (by omega)
  have haI : (nI aa).toInt = (aa : Int) := nI_toInt (by omega)
  generalize hρ : (fun i => ((Value.ref X :: lx_vals xs j0 ds) ++ [.ref h, .int (nI pp), .int (nI aa)]).getD i .null) = ρ
  have w0 : ρ 0 = .ref X := (congrFun hρ 0).symm
  have wn : ∀ j, ρ (1 + ds.length + j) = [.ref h, .int (nI pp), .int (nI aa)].getD j .null := fun j => (congrFun hρ _).symm.trans (lq_getA _ _ hl1 j)
  have w1 : ρ (1 + ds.length) = .ref h := wn 0
  have w2 : ρ (1 + ds.length + 1) = .int (nI pp) := wn 1
  have w3 : ρ (1 + ds.length + 2) = .int (nI aa) := wn 2
  have hT : nkT (D, nkKds, Γ) (lq_PX ds plo phi alo ahi) ρ H := by
    refine ⟨?_, ?_, fun q hq => (by cases hq), fun q hq => (by cases hq), hI.1⟩
    · rw [← hρ]
      exact lq_allL (vs := ((2, 10, 0) :: ds.map lq_ty) ++ [(2, 2, 0), (0, plo, phi), (0, alo, ahi)]) (xs := (.ref X :: lx_vals xs j0 ds) ++ [.ref h, .int (nI pp), .int (nI aa)]) (lq_okL_app ⟨⟨X, rfl, g1⟩, lq_okV xs ds j0⟩ ⟨⟨h, rfl, g3⟩, ⟨_, rfl, by dsimp only; omega, by dsimp only; omega⟩, ⟨_, rfl, by dsimp only; omega, by dsimp only; omega⟩, trivial⟩) (by show 1 + ds.length + 3 = _; simp only [List.length_append, List.length_cons, List.length_map, List.length_nil]; omega)
    · intro q hq
      have hq : q ∈ [(0, 7, 1 + ds.length), (1 + ds.length, 2, 1 + ds.length + 1), (1 + ds.length, 3, 1 + ds.length + 2)] := hq
      show q.1 < 1 + ds.length + 3 ∧ q.2.2 < 1 + ds.length + 3 ∧ _
      rcases List.mem_cons.mp hq with rfl | hq
      · exact lq_me1 (by first | omega | (dsimp only; omega)) (by first | omega | (dsimp only; omega)) w0 w1 e1
      · rcases List.mem_cons.mp hq with rfl | hq
        · exact lq_me1 (by first | omega | (dsimp only; omega)) (by first | omega | (dsimp only; omega)) w1 w2 e2
        · obtain rfl := List.mem_singleton.mp hq
          exact lq_me1 (by first | omega | (dsimp only; omega)) (by first | omega | (dsimp only; omega)) w1 w3 e3
  have hPn : en.2.2.2.2.1.1 = 1 + ds.length + 3 := by rw [s1]; rfl
  rw [← s1] at hT
  refine lq_callI hF hls hM hZ hN.2.2.1 hB hd (by rw [s2, ← hρ]; exact lq_rng _ _ hl1) (lx_vlen xs ds j0) hT (show nkKds[Γ X]? = some nkKds_10 by rw [g1]; rfl) hcat (fun v F ρ' H1 locs1 f1 f2 f3 f4 f5 hl => ?_)
  have hal := List.all_eq_true.mp s3 F f1
  unfold lq_altX at hal
  rw [Bool.and_eq_true] at hal
  obtain ⟨z, rfl⟩ := lq_ans_ok hal.1 f3 f4
  obtain ⟨t1, t2, t3⟩ := lq_kT hI hkm' s4 f5.2.2.2
  have hal := hal.2
  split at hal
  · rename_i i j hi hj
    obtain ⟨p', a', q1, q2, q3⟩ := lq_sum_ok hal f3.1 ((f2 (1 + ds.length + 1) (by omega)).trans w2) ((f2 (1 + ds.length + 2) (by omega)).trans w3) hpa
    have u1 := (f2 (1 + ds.length) (by omega)).trans w1
    have y1 := f3.2.1.fd (lq_me_ok hi) u1
    have y2 := f3.2.1.fd (lq_me_ok hj) u1
    rw [q1] at y1
    rw [q2] at y2
    exact k z H1 locs1 ⟨Γ, km, hkm, hZ, hN.next f5 hl, f3.2.2.2.2, ⟨g1, g2, g3⟩, t1, ⟨p', a', y1, y2, q3⟩, lq_kM hI hkm' s6 f5.2.2.2, t2, t3⟩
  · cases hal
/-- a call of the reference that keeps acts, in one mode -/
theorem lq_actM1 (hF : nhFx p c s m #[Value.ref b] code 4 20 D) (hls : ls.size = 4) {ds : List Bool} {idx km : Nat} (hkm : km = 40 ∨ km = 41) {N P : Nat} {ts : List nkV} (hk : nkKds[km]? = some (0, 12, N, P, ts)) (hsel : ∀ p a : Nat, p + a ≤ 40 → ∃ (en : nkIn) (plo phi alo ahi : Nat), nkMetI nkKds en ∧ (lq_acMB en km ds plo phi alo ahi = true ∧ lq_mB idx en ds.length 12 = true) ∧ (plo ≤ p + 18446744073709551616 ∧ p + 18446744073709551616 ≤ phi) ∧ (alo ≤ a + 18446744073709551616 ∧ a + 18446744073709551616 ≤ ahi)) (hd : decode code pc = .ok (.invokevirtual idx, 3)) (hcat : (rest.map fun v => v.category).sum ≤ 8) {X M h : Nat} {tx tm : Int32} (hZ : nkZ (D, nkKds, Γ) s) (hN : lqN s Γ H locs) (hI : lqI D Γ km X M h tx tm H) (xs : Nat → Int32) (j0 : Nat)
    (k : ∀ (z : Int32) (H1 : Heap) (locs1 : List Loc), lqN s Γ H1 locs1 → lqI D Γ km X M h tx tm H1 → W p l e room_1 s m #[Value.ref b] below meth c H1 locs1 600000 7302250 Q (F0 m (pc + 3) ls (.int z :: rest))) :
    W p l e room_1 s m #[Value.ref b] below meth c H locs 600000 7302250 Q (F0 m pc ls ((lx_vals xs j0 ds).reverse ++ .ref M :: rest)) := by
  obtain ⟨hH, ⟨g1, g2, g3⟩, e1, -, ⟨pp, aa, e2, e3, hpa⟩, -⟩ := id hI
  obtain ⟨en, plo, phi, alo, ahi, hM, ⟨hS, hB⟩, ⟨r1, r2⟩, ⟨r3, r4⟩⟩ := hsel pp aa hpa
  simp only [lq_acMB, Bool.and_eq_true] at hS
  obtain ⟨s1, s2, s3, s4, s6⟩ := hS
  have s1 := lq_eqS_ok s1
  have s2 := Nat.eq_of_beq_eq_true s2
  have hl1 : (Value.ref M :: lx_vals xs j0 ds).length = 1 + ds.length := by rw [List.length_cons, lx_vlen]; omega
  have hpI : (nI pp).toInt = (pp : Int) := nI_toInt (by omega)
  have haI : (nI aa).toInt = (aa : Int) := nI_toInt (by omega)
  generalize hρ : (fun i => ((Value.ref M :: lx_vals xs j0 ds) ++ [.int (nI pp), .int (nI aa)]).getD i .null) = ρ
  have w0 : ρ 0 = .ref M := (congrFun hρ 0).symm
  have wn : ∀ j, ρ (1 + ds.length + j) = [.int (nI pp), .int (nI aa)].getD j .null := fun j => (congrFun hρ _).symm.trans (lq_getA _ _ hl1 j)
  have w1 : ρ (1 + ds.length) = .int (nI pp) := wn 0
  have w2 : ρ (1 + ds.length + 1) = .int (nI aa) := wn 1
  have hT : nkT (D, nkKds, Γ) (lq_PM km ds plo phi alo ahi) ρ H := by
    refine ⟨?_, ?_, fun q hq => (by cases hq), fun q hq => (by cases hq), hI.1⟩
    · rw [← hρ]
      exact lq_allL (vs := ((2, km, 0) :: ds.map lq_ty) ++ [(0, plo, phi), (0, alo, ahi)]) (xs := (.ref M :: lx_vals xs j0 ds) ++ [.int (nI pp), .int (nI aa)]) (lq_okL_app ⟨⟨M, rfl, g2⟩, lq_okV xs ds j0⟩ ⟨⟨_, rfl, by dsimp only; omega, by dsimp only; omega⟩, ⟨_, rfl, by dsimp only; omega, by dsimp only; omega⟩, trivial⟩) (by show 1 + ds.length + 2 = _; simp only [List.length_append, List.length_cons, List.length_map, List.length_nil]; omega)
    · intro q hq
      have hq : q ∈ [(0, 44, 1 + ds.length), (0, 45, 1 + ds.length + 1)] := hq
      show q.1 < 1 + ds.length + 2 ∧ q.2.2 < 1 + ds.length + 2 ∧ _
      rcases List.mem_cons.mp hq with rfl | hq
      · exact lq_me1 (by first | omega | (dsimp only; omega)) (by first | omega | (dsimp only; omega)) w0 w1 e2
      · obtain rfl := List.mem_singleton.mp hq
        exact lq_me1 (by first | omega | (dsimp only; omega)) (by first | omega | (dsimp only; omega)) w0 w2 e3
  have hPn : en.2.2.2.2.1.1 = 1 + ds.length + 2 := by rw [s1]; rfl
  rw [← s1] at hT
  refine lq_callI hF hls hM hZ hN.2.2.1 hB hd (by rw [s2, ← hρ]; exact lq_rng _ _ hl1) (lx_vlen xs ds j0) hT (by rw [g2]; exact hk) hcat (fun v F ρ' H1 locs1 f1 f2 f3 f4 f5 hl => ?_)
  have hal := List.all_eq_true.mp s3 F f1
  unfold lq_altM at hal
  rw [Bool.and_eq_true] at hal
  obtain ⟨z, rfl⟩ := lq_ans_ok hal.1 f3 f4
  obtain ⟨t1, t2, t3⟩ := lq_kT hI hkm s4 f5.2.2.2
  have hal := hal.2
  split at hal
  · rename_i i j hi hj
    obtain ⟨p', a', q1, q2, q3⟩ := lq_sum_ok hal f3.1 ((f2 (1 + ds.length) (by omega)).trans w1) ((f2 (1 + ds.length + 1) (by omega)).trans w2) hpa
    have u1 := (f2 0 (by omega)).trans w0
    have y1 := f3.2.1.fd (lq_me_ok hi) u1
    have y2 := f3.2.1.fd (lq_me_ok hj) u1
    rw [q1] at y1
    rw [q2] at y2
    exact k z H1 locs1 (hN.next f5 hl) ⟨f3.2.2.2.2, ⟨g1, g2, g3⟩, t1, lq_kX hI s6 f5.2.2.2, ⟨p', a', y1, y2, q3⟩, t2, t3⟩
  · cases hal
theorem lq_actM (hF : nhFx p c s m #[Value.ref b] code 4 20 D) (hls : ls.size = 4) {ds : List Bool} {idx : Nat} (hsel : ∀ km : Nat, km = 40 ∨ km = 41 → ∀ p a : Nat, p + a ≤ 40 → ∃ (en : nkIn) (plo phi alo ahi : Nat), nkMetI nkKds en ∧ (lq_acMB en km ds plo phi alo ahi = true ∧ lq_mB idx en ds.length 12 = true) ∧ (plo ≤ p + 18446744073709551616 ∧ p + 18446744073709551616 ≤ phi) ∧ (alo ≤ a + 18446744073709551616 ∧ a + 18446744073709551616 ≤ ahi)) (hd : decode code pc = .ok (.invokevirtual idx, 3)) (hcat : (rest.map fun v => v.category).sum ≤ 8) {X M h : Nat} {tx tm : Int32} (hJ : lqJ s D X M h tx tm H locs) (xs : Nat → Int32) (j0 : Nat)
    (k : ∀ (z : Int32) (H1 : Heap) (locs1 : List Loc), lqJ s D X M h tx tm H1 locs1 → W p l e room_1 s m #[Value.ref b] below meth c H1 locs1 600000 7302250 Q (F0 m (pc + 3) ls (.int z :: rest))) :
    W p l e room_1 s m #[Value.ref b] below meth c H locs 600000 7302250 Q (F0 m pc ls ((lx_vals xs j0 ds).reverse ++ .ref M :: rest)) := by
  obtain ⟨Γ, km, hkm, hZ, hN, hI⟩ := hJ
  rcases hkm with ⟨rfl, hp⟩ | ⟨rfl, hp⟩
  · exact lq_actM1 hF hls (Or.inl rfl) (show nkKds[40]? = some nkKds_40 from rfl) (hsel 40 (Or.inl rfl)) hd hcat hZ hN hI xs j0 (fun z H1 locs1 hN1 hI1 => k z H1 locs1 ⟨Γ, 40, Or.inl ⟨rfl, hp⟩, hZ, hN1, hI1⟩)
  · exact lq_actM1 hF hls (Or.inr rfl) (show nkKds[41]? = some nkKds_41 from rfl) (hsel 41 (Or.inr rfl)) hd hcat hZ hN hI xs j0 (fun z H1 locs1 hN1 hI1 => k z H1 locs1 ⟨Γ, 41, Or.inr ⟨rfl, hp⟩, hZ, hN1, hI1⟩)
end LQC
