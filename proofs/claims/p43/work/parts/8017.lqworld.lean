/-! the world between two calls of the law: the class's cells and the reference's, each typed by itself -/
def lqX (D : nhD) (T : List nkKd) (Γ : Nat → Nat) (X h : Nat) (tx : Int32) (H : Heap) : Prop := nkH (D, T, Γ) H ∧ (Γ X = 10 ∧ Γ h = 2) ∧ nkFd (D, T, Γ) H X 7 (.ref h) ∧ (∃ p a : Nat, nkFd (D, T, Γ) H h 2 (.int (nI p)) ∧ nkFd (D, T, Γ) H h 3 (.int (nI a)) ∧ p + a ≤ 40) ∧ nkFd (D, T, Γ) H X 14 (.int tx)
def lqM (D : nhD) (Γ : Nat → Nat) (km M : Nat) (tm : Int32) (H : Heap) : Prop := nkH (D, nkKds, Γ) H ∧ Γ M = km ∧ (∃ p a : Nat, nkFd (D, nkKds, Γ) H M 44 (.int (nI p)) ∧ nkFd (D, nkKds, Γ) H M 45 (.int (nI a)) ∧ p + a ≤ 40) ∧ nkFd (D, nkKds, Γ) H M 61 (.int tm)
def lqN (s : State) (H : Heap) (locs : List Loc) : Prop := s.heap.size ≤ H.size ∧ (∀ q : Nat, q < s.heap.size → H[q]? = s.heap[q]?) ∧ ∀ l ∈ locs, s.heap.size ≤ l.base
def lqXs (s : State) (D : nhD) (X h : Nat) (tx : Int32) (H : Heap) : Prop := ∃ Γ : Nat → Nat, (∀ a, Γ a < 84 → s.heap.size ≤ a ∧ a < s.heap.size + 281) ∧ ((nkZ (D, nkKds, Γ) s ∧ lqX D nkKds Γ X h tx H) ∨ (nkZ (D, nkKdL, Γ) s ∧ (∀ a : Nat, Γ a < 40 ∨ Γ a = 41 ∨ 84 ≤ Γ a) ∧ lqX D nkKdL Γ X h tx H))
def lqMs (s : State) (D : nhD) (M : Nat) (tm : Int32) (H : Heap) : Prop := ∃ (Γ : Nat → Nat) (km : Nat), (∀ a, Γ a < 84 → s.heap.size + 281 ≤ a) ∧ ((km = 40 ∧ nkb0_pu Γ) ∨ (km = 41 ∧ nkb1_pu Γ)) ∧ nkZ (D, nkKds, Γ) s ∧ lqM D Γ km M tm H
def lqJ (s : State) (D : nhD) (X M h : Nat) (tx tm : Int32) (H : Heap) (locs : List Loc) : Prop := lqN s H locs ∧ lqXs s D X h tx H ∧ lqMs s D M tm H
def lqW (s : State) (D : nhD) (X M h : Nat) (H : Heap) (locs : List Loc) : Prop := ∃ t : Int32, lqJ s D X M h t t H locs
theorem lqN.S {s : State} {H : Heap} {locs : List Loc} (h : lqN s H locs) : va_S (fun q : Nat => s.heap.size ≤ q) s.heap H locs := ⟨h.1, fun q hq _ => h.2.1 q hq, h.2.2⟩
theorem nkZ.to2 {E : nkE} {s U : State} (hW : s.WarmedH U.vm) (hq : ∀ q : Nat, q < s.heap.size → U.heap[q]? = s.heap[q]?) (h : nkZ E s) : nkZ E U := by
  obtain ⟨adK, adV, h1, ⟨h2, h3⟩, h4, h5, h6⟩ := h
  have hk : ∀ a : Nat, a < s.heap.size → ¬ nkA E a → U.heap[a]? = s.heap[a]? := fun a ha _ => hq a ha
  exact ⟨adK, adV, (h1.kept hk).moved hW.alike, ⟨h2.warm hW, h3.warm hW⟩, h4, h5, (h6.1.kept hk).moved hW.alike, (h6.2.kept hk).moved hW.alike⟩
theorem lq_ck {D : nhD} {Γ : Nat → Nat} {k : nkKd} {a : Nat} {H H1 : Heap} (h : nkCell D Γ k a H) (hq : H1[a]? = H[a]?) : nkCell D Γ k a H1 := by
  obtain ⟨t, ci, N, P, els⟩ := k
  match t, h with
  | 0, h =>
    obtain ⟨V, ⟨cell, q1, q2⟩, h2⟩ := h
    exact ⟨V, ⟨cell, by rw [hq]; exact q1, q2⟩, h2⟩
  | 1, h =>
    obtain ⟨z, hz, h2⟩ := h
    exact ⟨z, by rw [hq]; exact hz, h2⟩
  | n + 2, h => exact h.elim
theorem lq_hk {D : nhD} {T : List nkKd} {Γ : Nat → Nat} {H H1 : Heap} (hT : T.length = 84) (hk : ∀ a : Nat, Γ a < 84 → H1[a]? = H[a]?) (h : nkH (D, T, Γ) H) : nkH (D, T, Γ) H1 := by
  refine ⟨fun a k ha => lq_ck (h.1 a k ha) (hk a ?_), fun hj => ⟨(h.2 hj).1, fun ac af at' e1 e2 e3 zc zf zt g1 g2 g3 => (h.2 hj).2 ac af at' e1 e2 e3 zc zf zt ?_ ?_ ?_⟩⟩
  · have ha : T[Γ a]? = some k := ha
    have := (List.getElem?_eq_some_iff.mp ha).1
    omega
  · have e1 : Γ ac = 80 := e1
    rw [← hk ac (by omega)]
    exact g1
  · have e2 : Γ af = 82 := e2
    rw [← hk af (by omega)]
    exact g2
  · have e3 : Γ at' = 83 := e3
    rw [← hk at' (by omega)]
    exact g3
theorem lq_fdk {D : nhD} {T : List nkKd} {Γ : Nat → Nat} {H H1 : Heap} (hT : T.length = 84) (hk : ∀ a : Nat, Γ a < 84 → H1[a]? = H[a]?) {a f : Nat} {x : Value} (h : nkFd (D, T, Γ) H a f x) : nkFd (D, T, Γ) H1 a f x := by
  obtain ⟨k, cell, h1, h2, h3, h4⟩ := h
  have h1' : T[Γ a]? = some k := h1
  have := (List.getElem?_eq_some_iff.mp h1').1
  exact ⟨k, cell, h1, h2, by rw [hk a (by omega)]; exact h3, h4⟩
theorem lqX.kept {D : nhD} {T : List nkKd} {Γ : Nat → Nat} {X h : Nat} {tx : Int32} {H H1 : Heap} (hT : T.length = 84) (hk : ∀ a : Nat, Γ a < 84 → H1[a]? = H[a]?) (hI : lqX D T Γ X h tx H) : lqX D T Γ X h tx H1 := by
  obtain ⟨h1, h2, h3, ⟨p, a, h4, h5, h6⟩, h7⟩ := hI
  exact ⟨lq_hk hT hk h1, h2, lq_fdk hT hk h3, ⟨p, a, lq_fdk hT hk h4, lq_fdk hT hk h5, h6⟩, lq_fdk hT hk h7⟩
theorem lqXs.kept {s : State} {D : nhD} {X h : Nat} {tx : Int32} {H H1 : Heap} (hk : ∀ a : Nat, s.heap.size ≤ a → a < s.heap.size + 281 → H1[a]? = H[a]?) (hI : lqXs s D X h tx H) : lqXs s D X h tx H1 := by
  obtain ⟨Γ, hr, hI⟩ := hI
  have hk' : ∀ a : Nat, Γ a < 84 → H1[a]? = H[a]? := fun a ha => hk a (hr a ha).1 (hr a ha).2
  refine ⟨Γ, hr, ?_⟩
  rcases hI with ⟨z, hI⟩ | ⟨z, n, hI⟩
  · exact Or.inl ⟨z, hI.kept rfl hk'⟩
  · exact Or.inr ⟨z, n, hI.kept rfl hk'⟩
theorem lqMs.kept {s : State} {D : nhD} {M : Nat} {tm : Int32} {H H1 : Heap} (hk : ∀ a : Nat, s.heap.size + 281 ≤ a → H1[a]? = H[a]?) (hI : lqMs s D M tm H) : lqMs s D M tm H1 := by
  obtain ⟨Γ, km, hr, hkm, hZ, h1, h2, ⟨p, a, h4, h5, h6⟩, h7⟩ := hI
  have hk' : ∀ a : Nat, Γ a < 84 → H1[a]? = H[a]? := fun a ha => hk a (hr a ha)
  exact ⟨Γ, km, hr, hkm, hZ, lq_hk rfl hk' h1, h2, ⟨p, a, lq_fdk rfl hk' h4, lq_fdk rfl hk' h5, h6⟩, lq_fdk rfl hk' h7⟩
theorem lqN.next {s : State} {D : nhD} {T : List nkKd} {Γ : Nat → Nat} {W : nkWs} {H H1 : Heap} {locs locs1 : List Loc} (h : lqN s H locs) (hT : T.length = 84) (hr : ∀ a, Γ a < 84 → s.heap.size ≤ a) (hF : nkFr (D, T, Γ) W H H1 []) (hl : ∀ q ∈ locs1, q ∈ locs ∨ Γ q.base < T.length) : lqN s H1 locs1 := by
  refine ⟨by rw [hF.1]; exact h.1, fun q hq => (hF.2.1 q ?_).trans (h.2.1 q hq), fun q hq => ?_⟩
  · show T.length ≤ Γ q
    rcases Nat.lt_or_ge (Γ q) 84 with z | z
    · have := hr q z
      omega
    · omega
  · rcases hl q hq with g | g
    · exact h.2.2 q g
    · exact hr _ (by omega)
theorem lq_fk {D : nhD} {T : List nkKd} {Γ : Nat → Nat} {W : nkWs} {H H1 : Heap} (hk : nkKp (D, T, Γ) W H H1) {a f g : Nat} {x : Value} (hg : Γ a = g) (ho : nk_off W g f = true) (h : nkFd (D, T, Γ) H a f x) : nkFd (D, T, Γ) H1 a f x := h.kept hk (by show nk_off W (Γ a) f = true; rw [hg]; exact ho)
def lq_offT (W : nkWs) : Bool := nk_off W 10 7 && nk_off W 10 14
def lq_offX (W : nkWs) : Bool := nk_off W 2 2 && nk_off W 2 3
def lq_offM (km : Nat) (W : nkWs) : Bool := nk_off W km 44 && nk_off W km 45
section LQI
variable {D : nhD} {T : List nkKd} {Γ : Nat → Nat} {km X M h : Nat} {tx tm : Int32} {H H1 : Heap} {W : nkWs}
theorem lq_kT (hI : lqX D T Γ X h tx H) (ho : lq_offT W = true) (hk : nkKp (D, T, Γ) W H H1) : nkFd (D, T, Γ) H1 X 7 (.ref h) ∧ nkFd (D, T, Γ) H1 X 14 (.int tx) := by
  obtain ⟨-, ⟨g1, g2⟩, f1, -, f4⟩ := hI
  simp only [lq_offT, Bool.and_eq_true] at ho
  exact ⟨lq_fk hk g1 ho.1 f1, lq_fk hk g1 ho.2 f4⟩
theorem lq_kX (hI : lqX D T Γ X h tx H) (ho : lq_offX W = true) (hk : nkKp (D, T, Γ) W H H1) : ∃ p a : Nat, nkFd (D, T, Γ) H1 h 2 (.int (nI p)) ∧ nkFd (D, T, Γ) H1 h 3 (.int (nI a)) ∧ p + a ≤ 40 := by
  obtain ⟨-, ⟨g1, g2⟩, f1, ⟨p, a, f2, f3, f4⟩, -⟩ := hI
  simp only [lq_offX, Bool.and_eq_true] at ho
  exact ⟨p, a, lq_fk hk g2 ho.1 f2, lq_fk hk g2 ho.2 f3, f4⟩
theorem lq_kM (hI : lqM D Γ km M tm H) (ho : lq_offM km W = true) (hk : nkKp (D, nkKds, Γ) W H H1) : ∃ p a : Nat, nkFd (D, nkKds, Γ) H1 M 44 (.int (nI p)) ∧ nkFd (D, nkKds, Γ) H1 M 45 (.int (nI a)) ∧ p + a ≤ 40 := by
  obtain ⟨-, g2, ⟨p, a, f2, f3, f4⟩, -⟩ := hI
  simp only [lq_offM, Bool.and_eq_true] at ho
  exact ⟨p, a, lq_fk hk g2 ho.1 f2, lq_fk hk g2 ho.2 f3, f4⟩
end LQI
/-! patterns of entry, by program -/
def lq_eqS (P Q : nkS) : Bool := Nat.beq P.1 Q.1 && (lq_eqVs P.2.1 Q.2.1 && (P.2.2.1.isEmpty && (Q.2.2.1.isEmpty && (P.2.2.2.1.isEmpty && (Q.2.2.2.1.isEmpty && (lq_eqVs P.2.2.2.2.1 Q.2.2.2.2.1 && (P.2.2.2.2.2.1.isEmpty && (Q.2.2.2.2.2.1.isEmpty && (P.2.2.2.2.2.2.isEmpty && Q.2.2.2.2.2.2.isEmpty)))))))))
theorem lq_eqS_ok {P Q : nkS} (h : lq_eqS P Q = true) : P = Q := by
  obtain ⟨a, b, c, d, e, f, g⟩ := P
  obtain ⟨a', b', c', d', e', f', g'⟩ := Q
  simp only [lq_eqS, Bool.and_eq_true] at h
  obtain ⟨h1, h2, h3, h4, h5, h6, h7, h8, h9, h10, h11⟩ := h
  rw [Nat.eq_of_beq_eq_true h1, lq_eqVs_ok h2, List.isEmpty_iff.mp h3, List.isEmpty_iff.mp h4, List.isEmpty_iff.mp h5, List.isEmpty_iff.mp h6, lq_eqVs_ok h7, List.isEmpty_iff.mp h8, List.isEmpty_iff.mp h9, List.isEmpty_iff.mp h10, List.isEmpty_iff.mp h11]
def lq_P (k0 : Nat) (ds : List Bool) : nkS := (1 + ds.length, ((2, k0, 0) :: ds.map lq_ty).reverse, [], [], [], [], [])
def lq_PX (ds : List Bool) (plo phi alo ahi : Nat) : nkS := (1 + ds.length + 3, (((2, 10, 0) :: ds.map lq_ty) ++ [(2, 2, 0), (0, plo, phi), (0, alo, ahi)]).reverse, [], [], [(0, 7, 1 + ds.length), (1 + ds.length, 2, 1 + ds.length + 1), (1 + ds.length, 3, 1 + ds.length + 2)], [], [])
def lq_PM (k0 : Nat) (ds : List Bool) (plo phi alo ahi : Nat) : nkS := (1 + ds.length + 2, (((2, k0, 0) :: ds.map lq_ty) ++ [(0, plo, phi), (0, alo, ahi)]).reverse, [], [], [(0, 44, 1 + ds.length), (0, 45, 1 + ds.length + 1)], [], [])
def lq_ans (F : nkS) : Bool := match F.2.2.2.1 with
  | [r] => match nk_g F.2.1 F.1 r with
    | some v => (nk_iv v).isSome
    | none => false
  | _ => false
theorem lq_ans_ok {F : nkS} (h : lq_ans F = true) {E : nkE} {ρ : Nat → Value} {H : Heap} {v : Option Value} (hT : nkT E F ρ H) (hv : nkRt F ρ v) : ∃ z : Int32, v = some (.int z) := by
  unfold lq_ans at h
  unfold nkRt at hv
  split at h
  · rename_i r hr
    rw [hr] at hv
    split at h
    · rename_i w hw
      obtain ⟨q, hq⟩ := Option.isSome_iff_exists.mp h
      obtain ⟨z, ez, -⟩ := nk_iv_ok hq (hT.1 r w hw)
      exact ⟨z, by rw [hv.2, ez]⟩
    · cases h
  · cases h
def lq_sX (en : nkIn) (ds : List Bool) : Bool := lq_eqS en.2.2.2.2.1 (lq_P 10 ds) && (Nat.beq en.2.2.2.1 (1 + ds.length) && (en.2.2.2.2.2.2.all lq_ans && (lq_offT en.2.2.2.2.2.1 && lq_offX en.2.2.2.2.2.1)))
def lq_sM (en : nkIn) (km : Nat) (ds : List Bool) : Bool := lq_eqS en.2.2.2.2.1 (lq_P km ds) && (Nat.beq en.2.2.2.1 (1 + ds.length) && (en.2.2.2.2.2.2.all lq_ans && (lq_offM km en.2.2.2.2.2.1 && nk_off en.2.2.2.2.2.1 km 61)))
def lq_me (o f : Nat) : List nkMm → Option Nat
  | [] => none
  | q :: r => match Nat.beq q.1 o && Nat.beq q.2.1 f with
    | true => some q.2.2
    | false => lq_me o f r
theorem lq_me_ok {o f x : Nat} : ∀ {me : List nkMm}, lq_me o f me = some x → (o, f, x) ∈ me
  | [], h => by cases h
  | q :: r, h => by
    unfold lq_me at h
    split at h
    · rename_i hc
      rw [Bool.and_eq_true] at hc
      have e1 := Nat.eq_of_beq_eq_true hc.1
      have e2 := Nat.eq_of_beq_eq_true hc.2
      obtain ⟨a, b, c⟩ := q
      dsimp only at e1 e2 h
      have h := Option.some.inj h
      subst e1 e2 h
      exact List.mem_cons_self
    · exact List.mem_cons_of_mem _ (lq_me_ok h)
def lq_sum (F : nkS) (i j u w : Nat) : Bool := (Nat.beq i u && Nat.beq j w) || (match nk_g F.2.1 F.1 i, nk_g F.2.1 F.1 j with
  | some a, some b => match nk_iv a, nk_iv b with
    | some q, some r => Nat.ble 18446744073709551616 q.1 && (Nat.ble 18446744073709551616 r.1 && Nat.ble (q.2 + r.2) 36893488147419103272)
    | _, _ => false
  | _, _ => false)
theorem lq_sum_ok {Γ : Nat → Nat} {F : nkS} {i j u w : Nat} (h : lq_sum F i j u w = true) {ρ : Nat → Value} (hA : nkAll Γ F.1 F.2.1 ρ) {p a : Nat} (hu : ρ u = .int (nI p)) (hw : ρ w = .int (nI a)) (hpa : p + a ≤ 40) : ∃ p' a' : Nat, ρ i = .int (nI p') ∧ ρ j = .int (nI a') ∧ p' + a' ≤ 40 := by
  unfold lq_sum at h
  rw [Bool.or_eq_true] at h
  rcases h with h | h
  · rw [Bool.and_eq_true] at h
    have e1 := Nat.eq_of_beq_eq_true h.1
    have e2 := Nat.eq_of_beq_eq_true h.2
    subst e1 e2
    exact ⟨p, a, hu, hw, hpa⟩
  · split at h
    · rename_i va vb ha hb
      split at h
      · rename_i q r hq hr
        simp only [Bool.and_eq_true] at h
        obtain ⟨h1, h2, h3⟩ := h
        have h1 := Nat.le_of_ble_eq_true h1
        have h2 := Nat.le_of_ble_eq_true h2
        have h3 := Nat.le_of_ble_eq_true h3
        obtain ⟨x, ex, x1, x2⟩ := nk_iv_ok hq (hA i va ha)
        obtain ⟨y, ey, y1, y2⟩ := nk_iv_ok hr (hA j vb hb)
        obtain ⟨p', -, ep, fp⟩ := nh_nI (x := x) (by omega)
        obtain ⟨a', -, ea, fa⟩ := nh_nI (x := y) (by omega)
        exact ⟨p', a', by rw [ex, ep], by rw [ey, ea], by omega⟩
      · cases h
    · cases h
def lq_altX (n : Nat) (F : nkS) : Bool := lq_ans F && (match lq_me n 2 F.2.2.2.2.1, lq_me n 3 F.2.2.2.2.1 with
  | some i, some j => lq_sum F i j (n + 1) (n + 2)
  | _, _ => false)
def lq_altM (n : Nat) (F : nkS) : Bool := lq_ans F && (match lq_me 0 44 F.2.2.2.2.1, lq_me 0 45 F.2.2.2.2.1 with
  | some i, some j => lq_sum F i j n (n + 1)
  | _, _ => false)
def lq_acXB (en : nkIn) (ds : List Bool) (plo phi alo ahi : Nat) : Bool := lq_eqS en.2.2.2.2.1 (lq_PX ds plo phi alo ahi) && (Nat.beq en.2.2.2.1 (1 + ds.length) && (en.2.2.2.2.2.2.all (lq_altX (1 + ds.length)) && lq_offT en.2.2.2.2.2.1))
def lq_acMB (en : nkIn) (km : Nat) (ds : List Bool) (plo phi alo ahi : Nat) : Bool := lq_eqS en.2.2.2.2.1 (lq_PM km ds plo phi alo ahi) && (Nat.beq en.2.2.2.1 (1 + ds.length) && (en.2.2.2.2.2.2.all (lq_altM (1 + ds.length)) && nk_off en.2.2.2.2.2.1 km 61))
def lq_mB (idx : Nat) (en : nkIn) (n ci : Nat) : Bool := decide (nh_find (nhLn.getD 20 []) idx = some en.1) && (match nhMt[en.1]?, nhCl[ci]? with
  | some y, some r => decide (y.2.2.2.2.1 = false ∧ y.2.2.2.2.2 = n ∧ r.1 = y.1.cls ∧ en.2.1 + 1 ≤ 2048 ∧ 8 + (y.2.2.1 + 11) + en.2.2.1 ≤ 84000)
  | _, _ => false)
/-! rows of values -/
theorem lq_rng (l1 l2 : List Value) {n : Nat} (hn : l1.length = n) : (List.range n).map (fun i => (l1 ++ l2).getD i .null) = l1 := by
  subst hn
  apply List.ext_getElem?
  intro i
  rw [List.getElem?_map]
  by_cases h : i < l1.length
  · rw [List.getElem?_range h, List.getElem?_eq_getElem h]
    show some ((l1 ++ l2).getD i .null) = _
    rw [List.getD_eq_getElem?_getD, List.getElem?_append_left h, List.getElem?_eq_getElem h]
    rfl
  · rw [List.getElem?_eq_none (by rw [List.length_range]; omega), List.getElem?_eq_none (by omega)]
    rfl
theorem lq_getA (l1 l2 : List Value) {n : Nat} (hn : l1.length = n) (j : Nat) : (l1 ++ l2).getD (n + j) .null = l2.getD j .null := by
  subst hn
  rw [List.getD_eq_getElem?_getD, List.getD_eq_getElem?_getD, List.getElem?_append_right (Nat.le_add_right _ _), Nat.add_sub_cancel_left]
theorem lq_me1 {E : nkE} {n : Nat} {ρ : Nat → Value} {H : Heap} {o f x a : Nat} {v : Value} (ho : o < n) (hx : x < n) (ea : ρ o = .ref a) (ev : ρ x = v) (h : nkFd E H a f v) : o < n ∧ x < n ∧ ∃ (a : Nat) (k : nkKd) (cell : Cell), ρ o = .ref a ∧ E.2.1[E.2.2 a]? = some k ∧ f < k.2.2.1 ∧ H[a]? = some cell ∧ cell.slots[nkSl E.1 k f]? = some (ρ x) := by
  obtain ⟨k, cell, h1, h2, h3, h4⟩ := h
  exact ⟨ho, hx, a, k, cell, ea, h1, h2, h3, by rw [ev]; exact h4⟩
section LQC
variable {p : Program} {l : Launch} {e : Env} {s : State} {m : MethodId} {b : Nat} {below : List Frame} {meth : Method} {c : Code} {Q : State → Prop} {D : nhD} {H : Heap} {locs : List Loc} {ls : Array Slot} {pc : Nat} {Γ : Nat → Nat} {rest : List Value}
theorem lq_callI (hF : nhFx p c s m #[Value.ref b] code 4 20 D) (hls : ls.size = 4) {T : List nkKd} {en : nkIn} (hM : nkMetI T en) (hZ : nkZ (D, T, Γ) s) (hun : ∀ q : Nat, q < s.heap.size → H[q]? = s.heap[q]?) {idx ci n : Nat} (hB : lq_mB idx en n ci = true) (hd : decode code pc = .ok (.invokevirtual idx, 3)) {ρ : Nat → Value} {a : Nat} {As : List Value} (hargs : (List.range en.2.2.2.1).map ρ = .ref a :: As) (hAs : As.length = n) (hT : nkT (D, T, Γ) en.2.2.2.2.1 ρ H) {N P : Nat} {ts : List nkV} (hk : T[Γ a]? = some (0, ci, N, P, ts)) (hcat : (rest.map fun v => v.category).sum ≤ 8)
    (k : ∀ (v : Option Value) (F : nkS) (ρ' : Nat → Value) (H1 : Heap) (locs1 : List Loc), F ∈ en.2.2.2.2.2.2 → nkX en.2.2.2.2.1.1 ρ ρ' → nkT (D, T, Γ) F ρ' H1 → nkRt F ρ' v → nkFr (D, T, Γ) en.2.2.2.2.2.1 H H1 [] → (∀ q ∈ locs1, q ∈ locs ∨ Γ q.base < T.length) → W p l e room_1 s m #[Value.ref b] below meth c H1 locs1 600000 7302250 Q (F0 m (pc + 3) ls (v.toList ++ rest))) :
    W p l e room_1 s m #[Value.ref b] below meth c H locs 600000 7302250 Q (F0 m pc ls (As.reverse ++ .ref a :: rest)) := by
  unfold lq_mB at hB
  rw [Bool.and_eq_true] at hB
  obtain ⟨hfd, hB⟩ := hB
  have hfd := of_decide_eq_true hfd
  split at hB
  · rename_i y r hy hr
    obtain ⟨c1, c2, c3, c4, c5⟩ := of_decide_eq_true hB
    obtain ⟨V, hV, -⟩ := hT.2.2.2.2.1 a _ hk
    refine lq_callM hF hy (nh_find_ok hfd) hd c1 (fr := en.2.1) (lo := en.2.2.1) c4 c5 (hM.1 y hy l D Γ ρ) (nkPc_blind _ _ _ _) (by rw [hAs, c2]) (fun U hU hW => ⟨by rw [hargs], by rw [hU]; exact hT, hF.2.2.2.2.2.moved hW.alike, hZ.to2 hW (fun q hq => by rw [hU]; exact hun q hq)⟩) hls hcat ⟨ci, r, N, V, hr, c3, hV⟩ (Nat.le_refl _) (Nat.le_refl _) (fun v st t locs1 h0 hQ hl => ?_)
    obtain ⟨⟨v', F, ρ', hv, f1, f2, f3, f4, f5⟩, hFr⟩ := hQ
    cases hv
    rw [h0] at hFr
    exact k v F ρ' t.heap locs1 f1 f3 f4 f5 hFr hl
  · cases hB
theorem lq_callG (hF : nhFx p c s m #[Value.ref b] code 4 20 D) (hls : ls.size = 4) {T : List nkKd} {en : nkIn} {Qg : nkE → (Nat → Value) → Heap → Heap → Option Value → nkS → (Nat → Value) → Prop} (hM : nkMetG T en (fun _ _ _ => True) Qg) (hZ : nkZ (D, T, Γ) s) (hun : ∀ q : Nat, q < s.heap.size → H[q]? = s.heap[q]?) {idx ci n : Nat} (hB : lq_mB idx en n ci = true) (hd : decode code pc = .ok (.invokevirtual idx, 3)) {ρ : Nat → Value} {a : Nat} {As : List Value} (hargs : (List.range en.2.2.2.1).map ρ = .ref a :: As) (hAs : As.length = n) (hT : nkT (D, T, Γ) en.2.2.2.2.1 ρ H) {N P : Nat} {ts : List nkV} (hk : T[Γ a]? = some (0, ci, N, P, ts)) (hcat : (rest.map fun v => v.category).sum ≤ 8)
    (k : ∀ (v : Option Value) (F : nkS) (ρ' : Nat → Value) (H1 : Heap) (locs1 : List Loc), nkT (D, T, Γ) F ρ' H1 → nkFr (D, T, Γ) en.2.2.2.2.2.1 H H1 [] → Qg (D, T, Γ) ρ H H1 v F ρ' → (∀ q ∈ locs1, q ∈ locs ∨ Γ q.base < T.length) → W p l e room_1 s m #[Value.ref b] below meth c H1 locs1 600000 7302250 Q (F0 m (pc + 3) ls (v.toList ++ rest))) :
    W p l e room_1 s m #[Value.ref b] below meth c H locs 600000 7302250 Q (F0 m pc ls (As.reverse ++ .ref a :: rest)) := by
  unfold lq_mB at hB
  rw [Bool.and_eq_true] at hB
  obtain ⟨hfd, hB⟩ := hB
  have hfd := of_decide_eq_true hfd
  split at hB
  · rename_i y r hy hr
    obtain ⟨c1, c2, c3, c4, c5⟩ := of_decide_eq_true hB
    obtain ⟨V, hV, -⟩ := hT.2.2.2.2.1 a _ hk
    refine lq_callM hF hy (nh_find_ok hfd) hd c1 (fr := en.2.1) (lo := en.2.2.1) c4 c5 (hM.1 y hy l D Γ ρ) (nkPg_blind _ _ _ _ _) (by rw [hAs, c2]) (fun U hU hW => ⟨⟨by rw [hargs], by rw [hU]; exact hT, hF.2.2.2.2.2.moved hW.alike, hZ.to2 hW (fun q hq => by rw [hU]; exact hun q hq)⟩, trivial⟩) hls hcat ⟨ci, r, N, V, hr, c3, hV⟩ (Nat.le_refl _) (Nat.le_refl _) (fun v st t locs1 h0 hQ hl => ?_)
    obtain ⟨⟨v', F, ρ', hv, f1, f2, f3, f4, f5, f6⟩, hFr⟩ := hQ
    cases hv
    rw [h0] at hFr f6
    exact k v F ρ' t.heap locs1 f4 hFr f6 hl
  · cases hB
/-- a call of the class that no fact of ours is touched by -/
theorem lq_coreX (hF : nhFx p c s m #[Value.ref b] code 4 20 D) (hls : ls.size = 4) {T : List nkKd} (hT84 : T.length = 84) {X h : Nat} {tx : Int32} (hk : ∃ (N P : Nat) (ts : List nkV), T[10]? = some (0, 11, N, P, ts)) {en : nkIn} (hM : nkMetI T en) {ds : List Bool} (hS : lq_sX en ds = true) {idx : Nat} (hB : lq_mB idx en ds.length 11 = true) (hd : decode code pc = .ok (.invokevirtual idx, 3)) (hcat : (rest.map fun v => v.category).sum ≤ 8) (hr : ∀ a, Γ a < 84 → s.heap.size ≤ a) (hZ : nkZ (D, T, Γ) s) (hN : lqN s H locs) (hI : lqX D T Γ X h tx H) (xs : Nat → Int32) (j0 : Nat)
    (k : ∀ (z : Int32) (H1 : Heap) (locs1 : List Loc), lqN s H1 locs1 → lqX D T Γ X h tx H1 → (∀ a : Nat, 84 ≤ Γ a → H1[a]? = H[a]?) → W p l e room_1 s m #[Value.ref b] below meth c H1 locs1 600000 7302250 Q (F0 m (pc + 3) ls (.int z :: rest))) :
    W p l e room_1 s m #[Value.ref b] below meth c H locs 600000 7302250 Q (F0 m pc ls ((lx_vals xs j0 ds).reverse ++ .ref X :: rest)) := by
  simp only [lq_sX, Bool.and_eq_true] at hS
  obtain ⟨s1, s2, s3, s4, s5⟩ := hS
  have s1 := lq_eqS_ok s1
  have s2 := Nat.eq_of_beq_eq_true s2
  obtain ⟨N, P, ts, hk⟩ := hk
  have hl1 : (Value.ref X :: lx_vals xs j0 ds).length = 1 + ds.length := by rw [List.length_cons, lx_vlen]; omega
  have hT : nkT (D, T, Γ) (lq_P 10 ds) (fun i => ((Value.ref X :: lx_vals xs j0 ds) ++ []).getD i .null) H := by
    refine ⟨?_, fun q hq => (by cases hq), fun q hq => (by cases hq), fun q hq => (by cases hq), hI.1⟩
    rw [List.append_nil]
    exact lq_allL (vs := (2, 10, 0) :: ds.map lq_ty) (xs := .ref X :: lx_vals xs j0 ds) ⟨⟨X, rfl, hI.2.1.1⟩, lq_okV xs ds j0⟩ (by show 1 + ds.length = _; rw [List.length_cons, List.length_map]; omega)
  rw [← s1] at hT
  refine lq_callI hF hls hM hZ hN.2.1 hB hd (by rw [s2]; exact lq_rng _ [] hl1) (lx_vlen xs ds j0) hT (by rw [hI.2.1.1]; exact hk) hcat (fun v F ρ' H1 locs1 f1 f2 f3 f4 f5 hl => ?_)
  obtain ⟨z, rfl⟩ := lq_ans_ok (List.all_eq_true.mp s3 F f1) f3 f4
  obtain ⟨t1, t2⟩ := lq_kT hI s4 f5.2.2.2
  exact k z H1 locs1 (hN.next hT84 hr f5 hl) ⟨f3.2.2.2.2, hI.2.1, t1, lq_kX hI s5 f5.2.2.2, t2⟩ (fun a ha => f5.2.1 a (by show T.length ≤ Γ a; omega))
/-- a call of the reference that no fact of ours is touched by, in one mode -/
theorem lq_coreM (hF : nhFx p c s m #[Value.ref b] code 4 20 D) (hls : ls.size = 4) {km M : Nat} {tm : Int32} (hk : ∃ (N P : Nat) (ts : List nkV), nkKds[km]? = some (0, 12, N, P, ts)) {en : nkIn} (hM : nkMetI nkKds en) {ds : List Bool} (hS : lq_sM en km ds = true) {idx : Nat} (hB : lq_mB idx en ds.length 12 = true) (hd : decode code pc = .ok (.invokevirtual idx, 3)) (hcat : (rest.map fun v => v.category).sum ≤ 8) (hr : ∀ a, Γ a < 84 → s.heap.size ≤ a) (hZ : nkZ (D, nkKds, Γ) s) (hN : lqN s H locs) (hI : lqM D Γ km M tm H) (xs : Nat → Int32) (j0 : Nat)
    (k : ∀ (z : Int32) (H1 : Heap) (locs1 : List Loc), lqN s H1 locs1 → lqM D Γ km M tm H1 → (∀ a : Nat, 84 ≤ Γ a → H1[a]? = H[a]?) → W p l e room_1 s m #[Value.ref b] below meth c H1 locs1 600000 7302250 Q (F0 m (pc + 3) ls (.int z :: rest))) :
    W p l e room_1 s m #[Value.ref b] below meth c H locs 600000 7302250 Q (F0 m pc ls ((lx_vals xs j0 ds).reverse ++ .ref M :: rest)) := by
  simp only [lq_sM, Bool.and_eq_true] at hS
  obtain ⟨s1, s2, s3, s4, s5⟩ := hS
  have s1 := lq_eqS_ok s1
  have s2 := Nat.eq_of_beq_eq_true s2
  obtain ⟨N, P, ts, hk⟩ := hk
  have hl1 : (Value.ref M :: lx_vals xs j0 ds).length = 1 + ds.length := by rw [List.length_cons, lx_vlen]; omega
  have hT : nkT (D, nkKds, Γ) (lq_P km ds) (fun i => ((Value.ref M :: lx_vals xs j0 ds) ++ []).getD i .null) H := by
    refine ⟨?_, fun q hq => (by cases hq), fun q hq => (by cases hq), fun q hq => (by cases hq), hI.1⟩
    rw [List.append_nil]
    exact lq_allL (vs := (2, km, 0) :: ds.map lq_ty) (xs := .ref M :: lx_vals xs j0 ds) ⟨⟨M, rfl, hI.2.1⟩, lq_okV xs ds j0⟩ (by show 1 + ds.length = _; rw [List.length_cons, List.length_map]; omega)
  rw [← s1] at hT
  refine lq_callI hF hls hM hZ hN.2.1 hB hd (by rw [s2]; exact lq_rng _ [] hl1) (lx_vlen xs ds j0) hT (by rw [hI.2.1]; exact hk) hcat (fun v F ρ' H1 locs1 f1 f2 f3 f4 f5 hl => ?_)
  obtain ⟨z, rfl⟩ := lq_ans_ok (List.all_eq_true.mp s3 F f1) f3 f4
  exact k z H1 locs1 (hN.next rfl hr f5 hl) ⟨f3.2.2.2.2, hI.2.1, lq_kM hI s4 f5.2.2.2, lq_fk f5.2.2.2 hI.2.1 s5 hI.2.2.2⟩ (fun a ha => f5.2.1 a ha)
theorem lq_xk {s : State} {Γ : Nat → Nat} {H H1 : Heap} (hr : ∀ a, Γ a < 84 → s.heap.size ≤ a ∧ a < s.heap.size + 281) (ho : ∀ a : Nat, 84 ≤ Γ a → H1[a]? = H[a]?) : ∀ a : Nat, s.heap.size + 281 ≤ a → H1[a]? = H[a]? := fun a ha => by
  refine ho a ?_
  rcases Nat.lt_or_ge (Γ a) 84 with z | z
  · have := hr a z
    omega
  · exact z
theorem lq_mk {s : State} {Γ : Nat → Nat} {H H1 : Heap} (hr : ∀ a, Γ a < 84 → s.heap.size + 281 ≤ a) (ho : ∀ a : Nat, 84 ≤ Γ a → H1[a]? = H[a]?) : ∀ a : Nat, s.heap.size ≤ a → a < s.heap.size + 281 → H1[a]? = H[a]? := fun a _ ha => by
  refine ho a ?_
  rcases Nat.lt_or_ge (Γ a) 84 with z | z
  · have := hr a z
    omega
  · exact z
theorem lq_k10 : (∃ (N P : Nat) (ts : List nkV), nkKds[10]? = some (0, 11, N, P, ts)) ∧ ∃ (N P : Nat) (ts : List nkV), nkKdL[10]? = some (0, 11, N, P, ts) := ⟨⟨_, _, _, rfl⟩, ⟨_, _, _, rfl⟩⟩
theorem lq_k40 {km : Nat} (h : km = 40 ∨ km = 41) : ∃ (N P : Nat) (ts : List nkV), nkKds[km]? = some (0, 12, N, P, ts) := by
  rcases h with rfl | rfl
  · exact ⟨_, _, _, rfl⟩
  · exact ⟨_, _, _, rfl⟩
theorem lq_doX (hF : nhFx p c s m #[Value.ref b] code 4 20 D) (hls : ls.size = 4) {en enR : nkIn} (hM : nkMetI nkKds en) (hMR : nkMetI nkKdL enR) {ds : List Bool} {idx : Nat} (hB : lq_sX en ds = true ∧ lq_mB idx en ds.length 11 = true) (hBR : lq_sX enR ds = true ∧ lq_mB idx enR ds.length 11 = true) (hd : decode code pc = .ok (.invokevirtual idx, 3)) (hcat : (rest.map fun v => v.category).sum ≤ 8) {X M h : Nat} {tx tm : Int32} (hJ : lqJ s D X M h tx tm H locs) (xs : Nat → Int32) (j0 : Nat)
    (k : ∀ (z : Int32) (H1 : Heap) (locs1 : List Loc), lqJ s D X M h tx tm H1 locs1 → W p l e room_1 s m #[Value.ref b] below meth c H1 locs1 600000 7302250 Q (F0 m (pc + 3) ls (.int z :: rest))) :
    W p l e room_1 s m #[Value.ref b] below meth c H locs 600000 7302250 Q (F0 m pc ls ((lx_vals xs j0 ds).reverse ++ .ref X :: rest)) := by
  obtain ⟨hN, ⟨Γ, hr, hI⟩, hm⟩ := hJ
  rcases hI with ⟨hZ, hI⟩ | ⟨hZ, hno, hI⟩
  · exact lq_coreX hF hls rfl lq_k10.1 hM hB.1 hB.2 hd hcat (fun a ha => (hr a ha).1) hZ hN hI xs j0 (fun z H1 locs1 hN1 hI1 ho => k z H1 locs1 ⟨hN1, ⟨Γ, hr, Or.inl ⟨hZ, hI1⟩⟩, hm.kept (lq_xk hr ho)⟩)
  · exact lq_coreX hF hls rfl lq_k10.2 hMR hBR.1 hBR.2 hd hcat (fun a ha => (hr a ha).1) hZ hN hI xs j0 (fun z H1 locs1 hN1 hI1 ho => k z H1 locs1 ⟨hN1, ⟨Γ, hr, Or.inr ⟨hZ, hno, hI1⟩⟩, hm.kept (lq_xk hr ho)⟩)
theorem lq_doM (hF : nhFx p c s m #[Value.ref b] code 4 20 D) (hls : ls.size = 4) {en0 en1 : nkIn} (hM0 : nkMetI nkKds en0) (hM1 : nkMetI nkKds en1) {ds : List Bool} {idx : Nat} (hB0 : lq_sM en0 40 ds = true ∧ lq_mB idx en0 ds.length 12 = true) (hB1 : lq_sM en1 41 ds = true ∧ lq_mB idx en1 ds.length 12 = true) (hd : decode code pc = .ok (.invokevirtual idx, 3)) (hcat : (rest.map fun v => v.category).sum ≤ 8) {X M h : Nat} {tx tm : Int32} (hJ : lqJ s D X M h tx tm H locs) (xs : Nat → Int32) (j0 : Nat)
    (k : ∀ (z : Int32) (H1 : Heap) (locs1 : List Loc), lqJ s D X M h tx tm H1 locs1 → W p l e room_1 s m #[Value.ref b] below meth c H1 locs1 600000 7302250 Q (F0 m (pc + 3) ls (.int z :: rest))) :
    W p l e room_1 s m #[Value.ref b] below meth c H locs 600000 7302250 Q (F0 m pc ls ((lx_vals xs j0 ds).reverse ++ .ref M :: rest)) := by
  obtain ⟨hN, hx, Γ, km, hr, hkm, hZ, hI⟩ := hJ
  have hr' : ∀ a, Γ a < 84 → s.heap.size ≤ a := fun a ha => by
    have := hr a ha
    omega
  rcases hkm with ⟨rfl, hp⟩ | ⟨rfl, hp⟩
  · exact lq_coreM hF hls (lq_k40 (Or.inl rfl)) hM0 hB0.1 hB0.2 hd hcat hr' hZ hN hI xs j0 (fun z H1 locs1 hN1 hI1 ho => k z H1 locs1 ⟨hN1, hx.kept (lq_mk hr ho), Γ, 40, hr, Or.inl ⟨rfl, hp⟩, hZ, hI1⟩)
  · exact lq_coreM hF hls (lq_k40 (Or.inr rfl)) hM1 hB1.1 hB1.2 hd hcat hr' hZ hN hI xs j0 (fun z H1 locs1 hN1 hI1 ho => k z H1 locs1 ⟨hN1, hx.kept (lq_mk hr ho), Γ, 41, hr, Or.inr ⟨rfl, hp⟩, hZ, hI1⟩)
/-- a call of the class that keeps acts -/
theorem lq_actX1 (hF : nhFx p c s m #[Value.ref b] code 4 20 D) (hls : ls.size = 4) {T : List nkKd} (hT84 : T.length = 84) (hk : ∃ (N P : Nat) (ts : List nkV), T[10]? = some (0, 11, N, P, ts)) {ds : List Bool} {idx : Nat} (hsel : ∀ p a : Nat, p + a ≤ 40 → ∃ (en : nkIn) (plo phi alo ahi : Nat), nkMetI T en ∧ (lq_acXB en ds plo phi alo ahi = true ∧ lq_mB idx en ds.length 11 = true) ∧ (plo ≤ p + 18446744073709551616 ∧ p + 18446744073709551616 ≤ phi) ∧ (alo ≤ a + 18446744073709551616 ∧ a + 18446744073709551616 ≤ ahi)) (hd : decode code pc = .ok (.invokevirtual idx, 3)) (hcat : (rest.map fun v => v.category).sum ≤ 8) {X h : Nat} {tx : Int32} (hr : ∀ a, Γ a < 84 → s.heap.size ≤ a) (hZ : nkZ (D, T, Γ) s) (hN : lqN s H locs) (hI : lqX D T Γ X h tx H) (xs : Nat → Int32) (j0 : Nat)
    (k : ∀ (z : Int32) (H1 : Heap) (locs1 : List Loc), lqN s H1 locs1 → lqX D T Γ X h tx H1 → (∀ a : Nat, 84 ≤ Γ a → H1[a]? = H[a]?) → W p l e room_1 s m #[Value.ref b] below meth c H1 locs1 600000 7302250 Q (F0 m (pc + 3) ls (.int z :: rest))) :
    W p l e room_1 s m #[Value.ref b] below meth c H locs 600000 7302250 Q (F0 m pc ls ((lx_vals xs j0 ds).reverse ++ .ref X :: rest)) := by
  obtain ⟨hH, ⟨g1, g3⟩, e1, ⟨pp, aa, e2, e3, hpa⟩, -⟩ := id hI
  obtain ⟨N0, P0, ts0, hk⟩ := hk
  obtain ⟨en, plo, phi, alo, ahi, hM, ⟨hS, hB⟩, ⟨r1, r2⟩, ⟨r3, r4⟩⟩ := hsel pp aa hpa
  simp only [lq_acXB, Bool.and_eq_true] at hS
  obtain ⟨s1, s2, s3, s4⟩ := hS
  have s1 := lq_eqS_ok s1
  have s2 := Nat.eq_of_beq_eq_true s2
  have hl1 : (Value.ref X :: lx_vals xs j0 ds).length = 1 + ds.length := by rw [List.length_cons, lx_vlen]; omega
  have hpI : (nI pp).toInt = (pp : Int) := nI_toInt (by omega)
  have haI : (nI aa).toInt = (aa : Int) := nI_toInt (by omega)
  generalize hρ : (fun i => ((Value.ref X :: lx_vals xs j0 ds) ++ [Value.ref h, Value.int (nI pp), Value.int (nI aa)]).getD i Value.null) = ρ
  have w0 : ρ 0 = .ref X := (congrFun hρ 0).symm
  have wn : ∀ j, ρ (1 + ds.length + j) = [.ref h, .int (nI pp), .int (nI aa)].getD j .null := fun j => (congrFun hρ _).symm.trans (lq_getA _ _ hl1 j)
  have w1 : ρ (1 + ds.length) = .ref h := wn 0
  have w2 : ρ (1 + ds.length + 1) = .int (nI pp) := wn 1
  have w3 : ρ (1 + ds.length + 2) = .int (nI aa) := wn 2
  have hT : nkT (D, T, Γ) (lq_PX ds plo phi alo ahi) ρ H := by
    refine ⟨?_, ?_, fun q hq => (by cases hq), fun q hq => (by cases hq), hI.1⟩
    · rw [← hρ]
      exact lq_allL (vs := ((2, 10, 0) :: ds.map lq_ty) ++ [(2, 2, 0), (0, plo, phi), (0, alo, ahi)]) (xs := (.ref X :: lx_vals xs j0 ds) ++ [.ref h, .int (nI pp), .int (nI aa)]) (lq_okL_app ⟨⟨X, rfl, g1⟩, lq_okV xs ds j0⟩ ⟨⟨h, rfl, g3⟩, ⟨_, rfl, by dsimp only; omega, by dsimp only; omega⟩, ⟨_, rfl, by dsimp only; omega, by dsimp only; omega⟩, trivial⟩) (by show 1 + ds.length + 3 = _; simp only [List.length_append, List.length_cons, List.length_map, List.length_nil]; omega)
    · intro q hq
      have hq : q ∈ [(0, 7, 1 + ds.length), (1 + ds.length, 2, 1 + ds.length + 1), (1 + ds.length, 3, 1 + ds.length + 2)] := hq
      show q.1 < 1 + ds.length + 3 ∧ q.2.2 < 1 + ds.length + 3 ∧ _
      rcases List.mem_cons.mp hq with rfl | hq
      · exact lq_me1 (by first | omega | (dsimp only; omega)) (by first | omega | (dsimp only; omega)) w0 w1 e1
      · rcases List.mem_cons.mp hq with rfl | hq
        · exact lq_me1 (by first | omega | (dsimp only; omega)) (by first | omega | (dsimp only; omega)) w1 w2 e2
        · obtain rfl := List.mem_singleton.mp hq
          exact lq_me1 (by first | omega | (dsimp only; omega)) (by first | omega | (dsimp only; omega)) w1 w3 e3
  have hPn : en.2.2.2.2.1.1 = 1 + ds.length + 3 := by rw [s1]; rfl
  rw [← s1] at hT
  refine lq_callI hF hls hM hZ hN.2.1 hB hd (by rw [s2, ← hρ]; exact lq_rng _ _ hl1) (lx_vlen xs ds j0) hT (by rw [g1]; exact hk) hcat (fun v F ρ' H1 locs1 f1 f2 f3 f4 f5 hl => ?_)
  have hal := List.all_eq_true.mp s3 F f1
  unfold lq_altX at hal
  rw [Bool.and_eq_true] at hal
  obtain ⟨z, rfl⟩ := lq_ans_ok hal.1 f3 f4
  obtain ⟨t1, t2⟩ := lq_kT hI s4 f5.2.2.2
  have hal := hal.2
  split at hal
  · rename_i i j hi hj
    obtain ⟨p', a', q1, q2, q3⟩ := lq_sum_ok hal f3.1 ((f2 (1 + ds.length + 1) (by omega)).trans w2) ((f2 (1 + ds.length + 2) (by omega)).trans w3) hpa
    have u1 := (f2 (1 + ds.length) (by omega)).trans w1
    have y1 := f3.2.1.fd (lq_me_ok hi) u1
    have y2 := f3.2.1.fd (lq_me_ok hj) u1
    rw [q1] at y1
    rw [q2] at y2
    exact k z H1 locs1 (hN.next hT84 hr f5 hl) ⟨f3.2.2.2.2, ⟨g1, g3⟩, t1, ⟨p', a', y1, y2, q3⟩, t2⟩ (fun a ha => f5.2.1 a (by show T.length ≤ Γ a; omega))
  · cases hal
theorem lq_actX (hF : nhFx p c s m #[Value.ref b] code 4 20 D) (hls : ls.size = 4) {ds : List Bool} {idx : Nat} (hsel : ∀ p a : Nat, p + a ≤ 40 → ∃ (en : nkIn) (plo phi alo ahi : Nat), nkMetI nkKds en ∧ (lq_acXB en ds plo phi alo ahi = true ∧ lq_mB idx en ds.length 11 = true) ∧ (plo ≤ p + 18446744073709551616 ∧ p + 18446744073709551616 ≤ phi) ∧ (alo ≤ a + 18446744073709551616 ∧ a + 18446744073709551616 ≤ ahi)) (hselR : ∀ p a : Nat, p + a ≤ 40 → ∃ (en : nkIn) (plo phi alo ahi : Nat), nkMetI nkKdL en ∧ (lq_acXB en ds plo phi alo ahi = true ∧ lq_mB idx en ds.length 11 = true) ∧ (plo ≤ p + 18446744073709551616 ∧ p + 18446744073709551616 ≤ phi) ∧ (alo ≤ a + 18446744073709551616 ∧ a + 18446744073709551616 ≤ ahi)) (hd : decode code pc = .ok (.invokevirtual idx, 3)) (hcat : (rest.map fun v => v.category).sum ≤ 8) {X M h : Nat} {tx tm : Int32} (hJ : lqJ s D X M h tx tm H locs) (xs : Nat → Int32) (j0 : Nat)
    (k : ∀ (z : Int32) (H1 : Heap) (locs1 : List Loc), lqJ s D X M h tx tm H1 locs1 → W p l e room_1 s m #[Value.ref b] below meth c H1 locs1 600000 7302250 Q (F0 m (pc + 3) ls (.int z :: rest))) :
    W p l e room_1 s m #[Value.ref b] below meth c H locs 600000 7302250 Q (F0 m pc ls ((lx_vals xs j0 ds).reverse ++ .ref X :: rest)) := by
  obtain ⟨hN, ⟨Γ, hr, hI⟩, hm⟩ := hJ
  rcases hI with ⟨hZ, hI⟩ | ⟨hZ, hno, hI⟩
  · exact lq_actX1 hF hls rfl lq_k10.1 hsel hd hcat (fun a ha => (hr a ha).1) hZ hN hI xs j0 (fun z H1 locs1 hN1 hI1 ho => k z H1 locs1 ⟨hN1, ⟨Γ, hr, Or.inl ⟨hZ, hI1⟩⟩, hm.kept (lq_xk hr ho)⟩)
  · exact lq_actX1 hF hls rfl lq_k10.2 hselR hd hcat (fun a ha => (hr a ha).1) hZ hN hI xs j0 (fun z H1 locs1 hN1 hI1 ho => k z H1 locs1 ⟨hN1, ⟨Γ, hr, Or.inr ⟨hZ, hno, hI1⟩⟩, hm.kept (lq_xk hr ho)⟩)
/-- land() of the class: the first one, or a later one -/
theorem lq_landX (hF : nhFx p c s m #[Value.ref b] code 4 20 D) (hls : ls.size = 4) {idx : Nat} (hsel : ∀ p a : Nat, p + a ≤ 40 → ∃ (en : nkIn) (plo phi alo ahi : Nat), nkMetI nkKds en ∧ (lq_acXB en [] plo phi alo ahi = true ∧ lq_mB idx en ([] : List Bool).length 11 = true) ∧ (plo ≤ p + 18446744073709551616 ∧ p + 18446744073709551616 ≤ phi) ∧ (alo ≤ a + 18446744073709551616 ∧ a + 18446744073709551616 ≤ ahi)) (hBR : lq_mB idx nqL_en 0 11 = true) (hd : decode code pc = .ok (.invokevirtual idx, 3)) {X M h : Nat} {tx tm : Int32} (hJ : lqJ s D X M h tx tm H locs)
    (k : ∀ (z : Int32) (H1 : Heap) (locs1 : List Loc), lqJ s D X M h tx tm H1 locs1 → W p l e room_1 s m #[Value.ref b] below meth c H1 locs1 600000 7302250 Q (F0 m (pc + 3) ls [.int z])) :
    W p l e room_1 s m #[Value.ref b] below meth c H locs 600000 7302250 Q (F0 m pc ls [.ref X]) := by
  obtain ⟨hN, ⟨Γ, hr, hI⟩, hm⟩ := hJ
  rcases hI with ⟨hZ, hI⟩ | ⟨hZ, hno, hI⟩
  · exact lq_actX1 (ds := []) (rest := []) hF hls rfl lq_k10.1 hsel hd (Nat.le_of_ble_eq_true rfl) (fun a ha => (hr a ha).1) hZ hN hI (fun _ => 0) 0 (fun z H1 locs1 hN1 hI1 ho => k z H1 locs1 ⟨hN1, ⟨Γ, hr, Or.inl ⟨hZ, hI1⟩⟩, hm.kept (lq_xk hr ho)⟩)
  · unfold lq_mB at hBR
    rw [Bool.and_eq_true] at hBR
    obtain ⟨hfd, hB⟩ := hBR
    have hfd := of_decide_eq_true hfd
    obtain ⟨hH, ⟨g1, g3⟩, e1, ⟨pp, aa, e2, e3, hpa⟩, e4⟩ := id hI
    split at hB
    · rename_i y r hy hr0
      obtain ⟨c1, c2, c3, c4, c5⟩ := of_decide_eq_true hB
      obtain ⟨V, hV, -⟩ := hH.1 X nkKdL_10 (show nkKdL[Γ X]? = some nkKdL_10 by rw [g1]; rfl)
      have hpI : (nI pp).toInt = (pp : Int) := nI_toInt (by omega)
      have haI : (nI aa).toInt = (aa : Int) := nI_toInt (by omega)
      have hT : nkT (D, nkKdL, Γ) nqL_en.2.2.2.2.1 (fun i => [Value.ref X, .ref h, .int (nI pp), .int (nI aa), .int tx].getD i .null) H := by
        refine ⟨?_, fun q hq => ?_, fun q hq => (by cases hq), fun q hq => (by cases hq), hH⟩
        · exact lq_allL (vs := [(2, 10, 0), (2, 2, 0), (0, 18446744073709551616, 18446744073709551656), (0, 18446744073709551616, 18446744073709551656), nk_fl]) (xs := [.ref X, .ref h, .int (nI pp), .int (nI aa), .int tx]) ⟨⟨X, rfl, g1⟩, ⟨h, rfl, g3⟩, ⟨_, rfl, by dsimp only; omega, by dsimp only; omega⟩, ⟨_, rfl, by dsimp only; omega, by dsimp only; omega⟩, nk_fl_ok _ _, trivial⟩ rfl
        · have hq : q ∈ [(0, 7, 1), (1, 2, 2), (1, 3, 3), (0, 14, 4)] := hq
          show q.1 < 5 ∧ q.2.2 < 5 ∧ _
          rcases List.mem_cons.mp hq with rfl | hq
          · exact lq_me1 (n := 5) (ρ := fun i => [Value.ref X, .ref h, .int (nI pp), .int (nI aa), .int tx].getD i .null) (o := 0) (x := 1) (a := X) (v := .ref h) (by decide) (by decide) rfl rfl e1
          · rcases List.mem_cons.mp hq with rfl | hq
            · exact lq_me1 (n := 5) (ρ := fun i => [Value.ref X, .ref h, .int (nI pp), .int (nI aa), .int tx].getD i .null) (o := 1) (x := 2) (a := h) (v := .int (nI pp)) (by decide) (by decide) rfl rfl e2
            · rcases List.mem_cons.mp hq with rfl | hq
              · exact lq_me1 (n := 5) (ρ := fun i => [Value.ref X, .ref h, .int (nI pp), .int (nI aa), .int tx].getD i .null) (o := 1) (x := 3) (a := h) (v := .int (nI aa)) (by decide) (by decide) rfl rfl e3
              · obtain rfl := List.mem_singleton.mp hq
                exact lq_me1 (n := 5) (ρ := fun i => [Value.ref X, .ref h, .int (nI pp), .int (nI aa), .int tx].getD i .null) (o := 0) (x := 4) (a := X) (v := .int tx) (by decide) (by decide) rfl rfl e4
      refine lq_callM (As := []) (rest := []) hF hy (nh_find_ok hfd) hd c1 (fr := nqL_en.2.1) (lo := nqL_en.2.2.1) c4 c5 (nqL_land (ρ := fun i => [Value.ref X, .ref h, .int (nI pp), .int (nI aa), .int tx].getD i .null) hno rfl rfl rfl rfl hpa rfl y hy) (nkPc_blind _ _ _ _) c2.symm (fun U hU hW => ⟨rfl, by rw [hU]; exact hT, hF.2.2.2.2.2.moved hW.alike, hZ.to2 hW (fun q hq => by rw [hU]; exact hN.2.1 q hq)⟩) hls (Nat.le_of_ble_eq_true rfl) ⟨11, r, 17, V, hr0, c3, hV⟩ (Nat.le_refl _) (Nat.le_refl _) (fun v st t locs1 h0 hQ hl => ?_)
      obtain ⟨z, ho, hH1, hsz, hout, d7, d14, p', a', d2, d3, hpa'⟩ := hQ
      cases ho
      rw [h0] at hsz hout
      refine k z t.heap locs1 ⟨⟨by rw [hsz]; exact hN.1, fun q hq => (hout q ?_).trans (hN.2.1 q hq), fun q hq => ?_⟩, ⟨fun a => nkRs (Γ a), fun a ha => hr a ?_, Or.inl ⟨hZ.rs, hH1, ⟨?_, ?_⟩, d7, ⟨p', a', d2, d3, hpa'⟩, d14⟩⟩, hm.kept (lq_xk hr hout)⟩
      · rcases Nat.lt_or_ge (Γ q) 84 with z | z
        · have := (hr q z).1
          omega
        · exact z
      · rcases hl q hq with g | g
        · exact hN.2.2 q g
        · have g : Γ q.base < 84 := g
          exact (hr _ g).1
      · have ha : nkRs (Γ a) < 84 := ha
        have := nkRs_84 (Γ a)
        omega
      · show nkRs (Γ X) = 10
        rw [g1]
        rfl
      · show nkRs (Γ h) = 2
        rw [g3]
        rfl
    · cases hB
/-- a call of the reference that keeps acts, in one mode -/
theorem lq_actM1 (hF : nhFx p c s m #[Value.ref b] code 4 20 D) (hls : ls.size = 4) {ds : List Bool} {idx km : Nat} (hk : ∃ (N P : Nat) (ts : List nkV), nkKds[km]? = some (0, 12, N, P, ts)) (hsel : ∀ p a : Nat, p + a ≤ 40 → ∃ (en : nkIn) (plo phi alo ahi : Nat), nkMetI nkKds en ∧ (lq_acMB en km ds plo phi alo ahi = true ∧ lq_mB idx en ds.length 12 = true) ∧ (plo ≤ p + 18446744073709551616 ∧ p + 18446744073709551616 ≤ phi) ∧ (alo ≤ a + 18446744073709551616 ∧ a + 18446744073709551616 ≤ ahi)) (hd : decode code pc = .ok (.invokevirtual idx, 3)) (hcat : (rest.map fun v => v.category).sum ≤ 8) {M : Nat} {tm : Int32} (hr : ∀ a, Γ a < 84 → s.heap.size ≤ a) (hZ : nkZ (D, nkKds, Γ) s) (hN : lqN s H locs) (hI : lqM D Γ km M tm H) (xs : Nat → Int32) (j0 : Nat)
    (k : ∀ (z : Int32) (H1 : Heap) (locs1 : List Loc), lqN s H1 locs1 → lqM D Γ km M tm H1 → (∀ a : Nat, 84 ≤ Γ a → H1[a]? = H[a]?) → W p l e room_1 s m #[Value.ref b] below meth c H1 locs1 600000 7302250 Q (F0 m (pc + 3) ls (.int z :: rest))) :
    W p l e room_1 s m #[Value.ref b] below meth c H locs 600000 7302250 Q (F0 m pc ls ((lx_vals xs j0 ds).reverse ++ .ref M :: rest)) := by
  obtain ⟨hH, g2, ⟨pp, aa, e2, e3, hpa⟩, e9⟩ := id hI
  obtain ⟨N0, P0, ts0, hk⟩ := hk
  obtain ⟨en, plo, phi, alo, ahi, hM, ⟨hS, hB⟩, ⟨r1, r2⟩, ⟨r3, r4⟩⟩ := hsel pp aa hpa
  simp only [lq_acMB, Bool.and_eq_true] at hS
  obtain ⟨s1, s2, s3, s4⟩ := hS
  have s1 := lq_eqS_ok s1
  have s2 := Nat.eq_of_beq_eq_true s2
  have hl1 : (Value.ref M :: lx_vals xs j0 ds).length = 1 + ds.length := by rw [List.length_cons, lx_vlen]; omega
  have hpI : (nI pp).toInt = (pp : Int) := nI_toInt (by omega)
  have haI : (nI aa).toInt = (aa : Int) := nI_toInt (by omega)
  generalize hρ : (fun i => ((Value.ref M :: lx_vals xs j0 ds) ++ [Value.int (nI pp), Value.int (nI aa)]).getD i Value.null) = ρ
  have w0 : ρ 0 = .ref M := (congrFun hρ 0).symm
  have wn : ∀ j, ρ (1 + ds.length + j) = [.int (nI pp), .int (nI aa)].getD j .null := fun j => (congrFun hρ _).symm.trans (lq_getA _ _ hl1 j)
  have w1 : ρ (1 + ds.length) = .int (nI pp) := wn 0
  have w2 : ρ (1 + ds.length + 1) = .int (nI aa) := wn 1
  have hT : nkT (D, nkKds, Γ) (lq_PM km ds plo phi alo ahi) ρ H := by
    refine ⟨?_, ?_, fun q hq => (by cases hq), fun q hq => (by cases hq), hI.1⟩
    · rw [← hρ]
      exact lq_allL (vs := ((2, km, 0) :: ds.map lq_ty) ++ [(0, plo, phi), (0, alo, ahi)]) (xs := (.ref M :: lx_vals xs j0 ds) ++ [.int (nI pp), .int (nI aa)]) (lq_okL_app ⟨⟨M, rfl, g2⟩, lq_okV xs ds j0⟩ ⟨⟨_, rfl, by dsimp only; omega, by dsimp only; omega⟩, ⟨_, rfl, by dsimp only; omega, by dsimp only; omega⟩, trivial⟩) (by show 1 + ds.length + 2 = _; simp only [List.length_append, List.length_cons, List.length_map, List.length_nil]; omega)
    · intro q hq
      have hq : q ∈ [(0, 44, 1 + ds.length), (0, 45, 1 + ds.length + 1)] := hq
      show q.1 < 1 + ds.length + 2 ∧ q.2.2 < 1 + ds.length + 2 ∧ _
      rcases List.mem_cons.mp hq with rfl | hq
      · exact lq_me1 (by first | omega | (dsimp only; omega)) (by first | omega | (dsimp only; omega)) w0 w1 e2
      · obtain rfl := List.mem_singleton.mp hq
        exact lq_me1 (by first | omega | (dsimp only; omega)) (by first | omega | (dsimp only; omega)) w0 w2 e3
  have hPn : en.2.2.2.2.1.1 = 1 + ds.length + 2 := by rw [s1]; rfl
  rw [← s1] at hT
  refine lq_callI hF hls hM hZ hN.2.1 hB hd (by rw [s2, ← hρ]; exact lq_rng _ _ hl1) (lx_vlen xs ds j0) hT (by rw [g2]; exact hk) hcat (fun v F ρ' H1 locs1 f1 f2 f3 f4 f5 hl => ?_)
  have hal := List.all_eq_true.mp s3 F f1
  unfold lq_altM at hal
  rw [Bool.and_eq_true] at hal
  obtain ⟨z, rfl⟩ := lq_ans_ok hal.1 f3 f4
  have hal := hal.2
  split at hal
  · rename_i i j hi hj
    obtain ⟨p', a', q1, q2, q3⟩ := lq_sum_ok hal f3.1 ((f2 (1 + ds.length) (by omega)).trans w1) ((f2 (1 + ds.length + 1) (by omega)).trans w2) hpa
    have u1 := (f2 0 (by omega)).trans w0
    have y1 := f3.2.1.fd (lq_me_ok hi) u1
    have y2 := f3.2.1.fd (lq_me_ok hj) u1
    rw [q1] at y1
    rw [q2] at y2
    exact k z H1 locs1 (hN.next rfl hr f5 hl) ⟨f3.2.2.2.2, g2, ⟨p', a', y1, y2, q3⟩, lq_fk f5.2.2.2 g2 s4 e9⟩ (fun a ha => f5.2.1 a ha)
  · cases hal
theorem lq_actM (hF : nhFx p c s m #[Value.ref b] code 4 20 D) (hls : ls.size = 4) {ds : List Bool} {idx : Nat} (hsel : ∀ km : Nat, km = 40 ∨ km = 41 → ∀ p a : Nat, p + a ≤ 40 → ∃ (en : nkIn) (plo phi alo ahi : Nat), nkMetI nkKds en ∧ (lq_acMB en km ds plo phi alo ahi = true ∧ lq_mB idx en ds.length 12 = true) ∧ (plo ≤ p + 18446744073709551616 ∧ p + 18446744073709551616 ≤ phi) ∧ (alo ≤ a + 18446744073709551616 ∧ a + 18446744073709551616 ≤ ahi)) (hd : decode code pc = .ok (.invokevirtual idx, 3)) (hcat : (rest.map fun v => v.category).sum ≤ 8) {X M h : Nat} {tx tm : Int32} (hJ : lqJ s D X M h tx tm H locs) (xs : Nat → Int32) (j0 : Nat)
    (k : ∀ (z : Int32) (H1 : Heap) (locs1 : List Loc), lqJ s D X M h tx tm H1 locs1 → W p l e room_1 s m #[Value.ref b] below meth c H1 locs1 600000 7302250 Q (F0 m (pc + 3) ls (.int z :: rest))) :
    W p l e room_1 s m #[Value.ref b] below meth c H locs 600000 7302250 Q (F0 m pc ls ((lx_vals xs j0 ds).reverse ++ .ref M :: rest)) := by
  obtain ⟨hN, hx, Γ, km, hr, hkm, hZ, hI⟩ := hJ
  have hr' : ∀ a, Γ a < 84 → s.heap.size ≤ a := fun a ha => by
    have := hr a ha
    omega
  rcases hkm with ⟨rfl, hp⟩ | ⟨rfl, hp⟩
  · exact lq_actM1 hF hls (lq_k40 (Or.inl rfl)) (hsel 40 (Or.inl rfl)) hd hcat hr' hZ hN hI xs j0 (fun z H1 locs1 hN1 hI1 ho => k z H1 locs1 ⟨hN1, hx.kept (lq_mk hr ho), Γ, 40, hr, Or.inl ⟨rfl, hp⟩, hZ, hI1⟩)
  · exact lq_actM1 hF hls (lq_k40 (Or.inr rfl)) (hsel 41 (Or.inr rfl)) hd hcat hr' hZ hN hI xs j0 (fun z H1 locs1 hN1 hI1 ho => k z H1 locs1 ⟨hN1, hx.kept (lq_mk hr ho), Γ, 41, hr, Or.inr ⟨rfl, hp⟩, hZ, hI1⟩)
end LQC
