/-! later(), land() of the reference, a case of the law -/
theorem lq_laR {f : Nat} {E : nkE} {ρ : Nat → Value} {H H1 : Heap} {v : Option Value} (h : nkLaQ f E ρ H H1 v) {a : Nat} {n t : Int32} (e0 : ρ 0 = .ref a) (e1 : ρ 1 = .int n) (ht : nkFd E H a f (.int t)) : ∃ r t' : Int32, v = some (.int r) ∧ nkFd E H1 a f (.int t') ∧ ((la_ok t n ∧ r = t + n ∧ t' = t + n) ∨ (¬ la_ok t n ∧ r = -1 ∧ t' = t)) := by
  obtain ⟨h1, h2⟩ := h a n t e0 e1 ht
  by_cases hok : la_ok t n
  · obtain ⟨g1, g2⟩ := h1 hok
    exact ⟨_, _, g1, g2, Or.inl ⟨hok, rfl, rfl⟩⟩
  · obtain ⟨g1, g2⟩ := h2 hok
    exact ⟨_, _, g1, g2, Or.inr ⟨hok, rfl, rfl⟩⟩
theorem lq_swM0 {D : nhD} {Γ : Nat → Nat} {H : Heap} {a f : Nat} {x : Value} (hg : Γ a = 40) (h : nkFd (D, nkKds, Γ) H a f x) : nkFd (D, nkKds, fun a => nkSw (Γ a)) H a f x := by
  obtain ⟨k, cell, h1, h2, h3, h4⟩ := h
  have h1 : nkKds[Γ a]? = some k := h1
  rw [hg] at h1
  have e : nkKds_40 = k := Option.some.inj h1
  subst e
  refine ⟨nkKds_41, cell, ?_, h2, h3, h4⟩
  show nkKds[nkSw (Γ a)]? = some nkKds_41
  rw [hg]
  rfl
theorem lq_swM1 {D : nhD} {Γ : Nat → Nat} {H : Heap} {a f : Nat} {x : Value} (hg : Γ a = 41) (h : nkFd (D, nkKds, Γ) H a f x) : nkFd (D, nkKds, fun a => nkSw (Γ a)) H a f x := by
  obtain ⟨k, cell, h1, h2, h3, h4⟩ := h
  have h1 : nkKds[Γ a]? = some k := h1
  rw [hg] at h1
  have e : nkKds_41 = k := Option.some.inj h1
  subst e
  refine ⟨nkKds_40, cell, ?_, h2, h3, h4⟩
  show nkKds[nkSw (Γ a)]? = some nkKds_40
  rw [hg]
  rfl
def lq_caseB (pc i1 i2 : Nat) (ds : List Bool) : Bool := decide (ce_dk lxT pc = some (.aload_n 1, 1)) && (lx_argsB (pc + 1) 1 ds && (decide (ce_dk lxT (pc + 1 + lx_sz ds) = some (.invokevirtual i1, 3)) && (decide (ce_dk lxT (pc + 1 + lx_sz ds + 3) = some (.pop, 1)) && (decide (ce_dk lxT (pc + 1 + lx_sz ds + 3 + 1) = some (.aload_n 2, 1)) && (lx_argsB (pc + 1 + lx_sz ds + 3 + 1 + 1) 1 ds && (decide (ce_dk lxT (pc + 1 + lx_sz ds + 3 + 1 + 1 + lx_sz ds) = some (.invokevirtual i2, 3)) && (decide (ce_dk lxT (pc + 1 + lx_sz ds + 3 + 1 + 1 + lx_sz ds + 3) = some (.pop, 1)) && decide (ce_dk lxT (pc + 1 + lx_sz ds + 3 + 1 + 1 + lx_sz ds + 3 + 1) = some (.goto (1522 - ((pc + 1 + lx_sz ds + 3 + 1 + 1 + lx_sz ds + 3 + 1 : Nat) : Int)), 3)))))))))
def lq_caseLB (pc i1 i2 : Nat) (ds : List Bool) : Bool := decide (ce_dk lxT pc = some (.aload_n 1, 1)) && (lx_argsB (pc + 1) 1 ds && (decide (ce_dk lxT (pc + 1 + lx_sz ds) = some (.invokevirtual i1, 3)) && (decide (ce_dk lxT (pc + 1 + lx_sz ds + 3) = some (.aload_n 2, 1)) && (lx_argsB (pc + 1 + lx_sz ds + 3 + 1) 1 ds && (decide (ce_dk lxT (pc + 1 + lx_sz ds + 3 + 1 + lx_sz ds) = some (.invokevirtual i2, 3)) && decide (ce_dk lxT (pc + 1 + lx_sz ds + 3 + 1 + lx_sz ds + 3) = some (.if_icmp .eq (1522 - ((pc + 1 + lx_sz ds + 3 + 1 + lx_sz ds + 3 : Nat) : Int)), 3)))))))
def lq_selB (L : List nkIn) (idx u : Nat) : Bool := match L[u]? with
  | some en => lq_acXB en [] 18446744073709551616 (18446744073709551656 - u) (18446744073709551616 + u) (18446744073709551616 + u) && lq_mB idx en 0 11
  | none => false
theorem lq_selX {T : List nkKd} {L : List nkIn} {idx : Nat} (hL : ∀ en ∈ L, nkMetI T en) (hB : (List.range 41).all (fun u => lq_selB L idx u) = true) : ∀ p a : Nat, p + a ≤ 40 → ∃ (en : nkIn) (plo phi alo ahi : Nat), nkMetI T en ∧ (lq_acXB en [] plo phi alo ahi = true ∧ lq_mB idx en ([] : List Bool).length 11 = true) ∧ (plo ≤ p + 18446744073709551616 ∧ p + 18446744073709551616 ≤ phi) ∧ (alo ≤ a + 18446744073709551616 ∧ a + 18446744073709551616 ≤ ahi) := fun p a hpa => by
  have h := List.all_eq_true.mp hB a (List.mem_range.mpr (by omega))
  unfold lq_selB at h
  split at h
  · rename_i en hen
    rw [Bool.and_eq_true] at h
    exact ⟨en, _, _, _, _, hL en (List.mem_of_getElem? hen), ⟨h.1, h.2⟩, ⟨by omega, by omega⟩, ⟨by omega, by omega⟩⟩
  · cases h
def lq_semB (L : List nkIn) (km idx u : Nat) : Bool := match L[u]? with
  | some en => lq_acMB en km [] 18446744073709551616 (18446744073709551656 - u) (18446744073709551616 + u) (18446744073709551616 + u) && lq_mB idx en 0 12
  | none => false
theorem lq_selM {L0 L1 : List nkIn} {idx : Nat} (hL0 : ∀ en ∈ L0, nkMetI nkKds en) (hL1 : ∀ en ∈ L1, nkMetI nkKds en) (hB0 : (List.range 41).all (fun u => lq_semB L0 40 idx u) = true) (hB1 : (List.range 41).all (fun u => lq_semB L1 41 idx u) = true) : ∀ km : Nat, km = 40 ∨ km = 41 → ∀ p a : Nat, p + a ≤ 40 → ∃ (en : nkIn) (plo phi alo ahi : Nat), nkMetI nkKds en ∧ (lq_acMB en km [] plo phi alo ahi = true ∧ lq_mB idx en ([] : List Bool).length 12 = true) ∧ (plo ≤ p + 18446744073709551616 ∧ p + 18446744073709551616 ≤ phi) ∧ (alo ≤ a + 18446744073709551616 ∧ a + 18446744073709551616 ≤ ahi) := fun km hkm p a hpa => by
  rcases hkm with rfl | rfl
  · have h := List.all_eq_true.mp hB0 a (List.mem_range.mpr (by omega))
    unfold lq_semB at h
    split at h
    · rename_i en hen
      rw [Bool.and_eq_true] at h
      exact ⟨en, _, _, _, _, hL0 en (List.mem_of_getElem? hen), ⟨h.1, h.2⟩, ⟨by omega, by omega⟩, ⟨by omega, by omega⟩⟩
    · cases h
  · have h := List.all_eq_true.mp hB1 a (List.mem_range.mpr (by omega))
    unfold lq_semB at h
    split at h
    · rename_i en hen
      rw [Bool.and_eq_true] at h
      exact ⟨en, _, _, _, _, hL1 en (List.mem_of_getElem? hen), ⟨h.1, h.2⟩, ⟨by omega, by omega⟩, ⟨by omega, by omega⟩⟩
    · cases h
theorem lx_nhFx {p : Program} {s : State} {m : MethodId} {meth : Method} {c : Code} {b L X M i : Nat} {xs : Nat → Int32} {D : nhD} {ls : Array Slot} (hC : lx_In p s m meth c b L xs D X M i ls) : nhFx p c s m #[Value.ref b] code 4 20 D := by
  obtain ⟨⟨hx, hb, hr, hml, hown, hts, hX, hbl, hlocks, hgv⟩, hL, hi, hK, hl⟩ := hC
  exact ⟨hx, hb, hml, ⟨"NightHousesLaw", rfl, hown⟩, fun w hw => hts w (List.mem_filter.mp hw).1, hK⟩
section LQK
variable {p : Program} {l : Launch} {e : Env} {s : State} {m : MethodId} {below : List Frame} {meth : Method} {c : Code} {b L X M h i : Nat} {xs : Nat → Int32} {D : nhD} {H : Heap} {locs : List Loc} {ls : Array Slot} {Q : State → Prop}
theorem lqJ.S {tx tm : Int32} (hJ : lqJ s D X M h tx tm H locs) : va_S (fun q : Nat => s.heap.size ≤ q) s.heap H locs := hJ.1.S
theorem lq_case (hC : lx_In p s m meth c b L xs D X M i ls) {pc i1 i2 : Nat} {ds : List Bool} (hds : ds.length ≤ 5) (hB : lq_caseB pc i1 i2 ds = true) (hW : lqW s D X M h H locs)
    (dX : ∀ {H : Heap} {locs : List Loc} {pc : Nat} {tx tm : Int32}, lqJ s D X M h tx tm H locs → decode code pc = .ok (.invokevirtual i1, 3) → (∀ (z : Int32) (H1 : Heap) (locs1 : List Loc), lqJ s D X M h tx tm H1 locs1 → W p l e room_1 s m #[Value.ref b] below meth c H1 locs1 600000 7302250 Q (F0 m (pc + 3) ls [.int z])) → W p l e room_1 s m #[Value.ref b] below meth c H locs 600000 7302250 Q (F0 m pc ls ((lx_vals (fun j => xs (i + j)) 1 ds).reverse ++ [.ref X])))
    (dM : ∀ {H : Heap} {locs : List Loc} {pc : Nat} {tx tm : Int32}, lqJ s D X M h tx tm H locs → decode code pc = .ok (.invokevirtual i2, 3) → (∀ (z : Int32) (H1 : Heap) (locs1 : List Loc), lqJ s D X M h tx tm H1 locs1 → W p l e room_1 s m #[Value.ref b] below meth c H1 locs1 600000 7302250 Q (F0 m (pc + 3) ls [.int z])) → W p l e room_1 s m #[Value.ref b] below meth c H locs 600000 7302250 Q (F0 m pc ls ((lx_vals (fun j => xs (i + j)) 1 ds).reverse ++ [.ref M])))
    (k : ∀ (H1 : Heap) (locs1 : List Loc), lqW s D X M h H1 locs1 → W p l e room_1 s m #[Value.ref b] below meth c H1 locs1 600000 7302250 Q (F0 m 1522 ls [])) :
    W p l e room_1 s m #[Value.ref b] below meth c H locs 600000 7302250 Q (F0 m pc ls []) := by
  obtain ⟨t, hJ⟩ := hW
  have hC' := hC
  obtain ⟨⟨hx, hb, hr, hml, hown, hts, hX, hbl, hlocks, hgv⟩, hL, hi, hK, hl⟩ := hC'
  simp only [lq_caseB, Bool.and_eq_true] at hB
  obtain ⟨b0, b1, b2, b3, b4, b5, b6, b7, b8⟩ := hB
  refine lv_aload_n hx hb (lx_d (of_decide_eq_true b0)) rfl (lv_at hl 2 rfl) ?_
  refine lx_args hC hJ.S ds (pc + 1) 1 _ (by omega) b1 ?_
  refine dX hJ (lx_d (of_decide_eq_true b2)) (fun z H1 locs1 hJ1 => ?_)
  refine lv_pop hx hb (lx_d (of_decide_eq_true b3)) rfl ?_
  refine lv_aload_n hx hb (lx_d (of_decide_eq_true b4)) rfl (lv_at hl 1 rfl) ?_
  refine lx_args hC hJ1.S ds (pc + 1 + lx_sz ds + 3 + 1 + 1) 1 _ (by omega) b5 ?_
  refine dM hJ1 (lx_d (of_decide_eq_true b6)) (fun z2 H2 locs2 hJ2 => ?_)
  refine lv_pop hx hb (lx_d (of_decide_eq_true b7)) rfl ?_
  refine lv_goto (tgt := 1522) hx hb (lx_d (of_decide_eq_true b8)) (by omega) ?_
  exact k H2 locs2 ⟨t, hJ2⟩
/-- one later(), of an object a that keeps its time in field f -/
theorem lq_late1 (hF : nhFx p c s m #[Value.ref b] code 4 20 D) (hls : ls.size = 4) {T : List nkKd} (hT84 : T.length = 84) {en : nkIn} {f k0 ci : Nat} (hM : nkMetG T en (fun _ _ _ => True) (fun E ρ H H1 v _ _ => nkLaQ f E ρ H H1 v)) (hP : lq_eqS en.2.2.2.2.1 (lq_P k0 [false]) = true) (hn : en.2.2.2.1 = 2) {Γ : Nat → Nat} (hr : ∀ a, Γ a < 84 → s.heap.size ≤ a) (hZ : nkZ (D, T, Γ) s) {idx : Nat} (hB : lq_mB idx en 1 ci = true) {pc : Nat} (hd : decode code pc = .ok (.invokevirtual idx, 3)) (hN : lqN s H locs) (hH : nkH (D, T, Γ) H) {a : Nat} {n t : Int32} (ha : Γ a = k0) (hk : ∃ (N P : Nat) (ts : List nkV), T[k0]? = some (0, ci, N, P, ts)) (ht : nkFd (D, T, Γ) H a f (.int t)) {rest : List Value} (hcat : (rest.map fun v => v.category).sum ≤ 8)
    (k : ∀ (r t' : Int32) (H1 : Heap) (locs1 : List Loc), nkH (D, T, Γ) H1 → nkFr (D, T, Γ) en.2.2.2.2.2.1 H H1 [] → lqN s H1 locs1 → nkFd (D, T, Γ) H1 a f (.int t') → ((la_ok t n ∧ r = t + n ∧ t' = t + n) ∨ (¬ la_ok t n ∧ r = -1 ∧ t' = t)) → W p l e room_1 s m #[Value.ref b] below meth c H1 locs1 600000 7302250 Q (F0 m (pc + 3) ls (.int r :: rest))) :
    W p l e room_1 s m #[Value.ref b] below meth c H locs 600000 7302250 Q (F0 m pc ls (.int n :: .ref a :: rest)) := by
  obtain ⟨N, P, ts, hk⟩ := hk
  have hP := lq_eqS_ok hP
  have hT : nkT (D, T, Γ) (lq_P k0 [false]) (fun i => ([Value.ref a, .int n] ++ []).getD i .null) H := by
    refine ⟨?_, fun q hq => (by cases hq), fun q hq => (by cases hq), fun q hq => (by cases hq), hH⟩
    rw [List.append_nil]
    exact lq_allL (vs := [(2, k0, 0), nk_fl]) (xs := [.ref a, .int n]) ⟨⟨a, rfl, ha⟩, nk_fl_ok _ _, trivial⟩ rfl
  rw [← hP] at hT
  refine lq_callG (As := [.int n]) hF hls hM hZ hN.2.1 hB hd (by rw [hn]; exact lq_rng [.ref a, .int n] [] rfl) rfl hT (by rw [ha]; exact hk) hcat (fun v F ρ' H1 locs1 g1 g2 g3 hl => ?_)
  obtain ⟨r, t', rfl, q1, q2⟩ := lq_laR g3 rfl rfl ht
  exact k r t' H1 locs1 g1.2.2.2.2 g2 (hN.next hT84 hr g2 hl) q1 q2
/-- later() of the class, in one table -/
theorem lq_laX1 (hF : nhFx p c s m #[Value.ref b] code 4 20 D) (hls : ls.size = 4) {T : List nkKd} (hT84 : T.length = 84) {en : nkIn} (hM : nkMetG T en (fun _ _ _ => True) (fun E ρ H H1 v _ _ => nkLaQ 14 E ρ H H1 v)) (hP : lq_eqS en.2.2.2.2.1 (lq_P 10 [false]) = true) (hn : en.2.2.2.1 = 2) (ho7 : nk_off en.2.2.2.2.2.1 10 7 = true) (hoX : lq_offX en.2.2.2.2.2.1 = true) {Γ : Nat → Nat} (hr : ∀ a, Γ a < 84 → s.heap.size ≤ a) (hZ : nkZ (D, T, Γ) s) {idx : Nat} (hB : lq_mB idx en 1 11 = true) {pc : Nat} (hd : decode code pc = .ok (.invokevirtual idx, 3)) (hN : lqN s H locs) {n t : Int32} (hk : ∃ (N P : Nat) (ts : List nkV), T[10]? = some (0, 11, N, P, ts)) (hI : lqX D T Γ X h t H)
    (k : ∀ (r t' : Int32) (H1 : Heap) (locs1 : List Loc), lqN s H1 locs1 → lqX D T Γ X h t' H1 → (∀ a : Nat, 84 ≤ Γ a → H1[a]? = H[a]?) → ((la_ok t n ∧ r = t + n ∧ t' = t + n) ∨ (¬ la_ok t n ∧ r = -1 ∧ t' = t)) → W p l e room_1 s m #[Value.ref b] below meth c H1 locs1 600000 7302250 Q (F0 m (pc + 3) ls [.int r])) :
    W p l e room_1 s m #[Value.ref b] below meth c H locs 600000 7302250 Q (F0 m pc ls [.int n, .ref X]) :=
  lq_late1 (rest := []) hF hls hT84 hM hP hn hr hZ hB hd hN hI.1 hI.2.1.1 hk hI.2.2.2.2 (Nat.le_of_ble_eq_true rfl) (fun r t' H1 locs1 hH1 hFr hN1 f4 hr1 => k r t' H1 locs1 hN1 ⟨hH1, hI.2.1, lq_fk hFr.2.2.2 hI.2.1.1 ho7 hI.2.2.1, lq_kX hI hoX hFr.2.2.2, f4⟩ (fun a ha => hFr.2.1 a (by show T.length ≤ Γ a; omega)) hr1)
theorem lq_laX (hF : nhFx p c s m #[Value.ref b] code 4 20 D) (hls : ls.size = 4) {idx : Nat} (hB : lq_mB idx nlX_en 1 11 = true) (hBR : lq_mB idx nlR_en 1 11 = true) {pc : Nat} (hd : decode code pc = .ok (.invokevirtual idx, 3)) {n tx tm : Int32} (hJ : lqJ s D X M h tx tm H locs)
    (k : ∀ (r t' : Int32) (H1 : Heap) (locs1 : List Loc), lqJ s D X M h t' tm H1 locs1 → ((la_ok tx n ∧ r = tx + n ∧ t' = tx + n) ∨ (¬ la_ok tx n ∧ r = -1 ∧ t' = tx)) → W p l e room_1 s m #[Value.ref b] below meth c H1 locs1 600000 7302250 Q (F0 m (pc + 3) ls [.int r])) :
    W p l e room_1 s m #[Value.ref b] below meth c H locs 600000 7302250 Q (F0 m pc ls [.int n, .ref X]) := by
  obtain ⟨hN, ⟨Γ, hr, hI⟩, hm⟩ := hJ
  rcases hI with ⟨hZ, hI⟩ | ⟨hZ, hno, hI⟩
  · exact lq_laX1 hF hls rfl nlX_later (by decide +kernel) rfl (by decide +kernel) (by decide +kernel) (fun a ha => (hr a ha).1) hZ hB hd hN lq_k10.1 hI (fun r t' H1 locs1 hN1 hI1 ho hr1 => k r t' H1 locs1 ⟨hN1, ⟨Γ, hr, Or.inl ⟨hZ, hI1⟩⟩, hm.kept (lq_xk hr ho)⟩ hr1)
  · exact lq_laX1 hF hls rfl nlR_later (by decide +kernel) rfl (by decide +kernel) (by decide +kernel) (fun a ha => (hr a ha).1) hZ hBR hd hN lq_k10.2 hI (fun r t' H1 locs1 hN1 hI1 ho hr1 => k r t' H1 locs1 ⟨hN1, ⟨Γ, hr, Or.inr ⟨hZ, hno, hI1⟩⟩, hm.kept (lq_xk hr ho)⟩ hr1)
/-- later() of the reference -/
theorem lq_laM1 (hF : nhFx p c s m #[Value.ref b] code 4 20 D) (hls : ls.size = 4) {km : Nat} {en : nkIn} (hM : nkMetG nkKds en (fun _ _ _ => True) (fun E ρ H H1 v _ _ => nkLaQ 61 E ρ H H1 v)) (hP : lq_eqS en.2.2.2.2.1 (lq_P km [false]) = true) (hn : en.2.2.2.1 = 2) (hoM : lq_offM km en.2.2.2.2.2.1 = true) {Γ : Nat → Nat} (hr : ∀ a, Γ a < 84 → s.heap.size ≤ a) (hZ : nkZ (D, nkKds, Γ) s) {idx : Nat} (hB : lq_mB idx en 1 12 = true) {pc : Nat} (hd : decode code pc = .ok (.invokevirtual idx, 3)) (hN : lqN s H locs) {n t : Int32} (hk : ∃ (N P : Nat) (ts : List nkV), nkKds[km]? = some (0, 12, N, P, ts)) (hI : lqM D Γ km M t H) {rest : List Value} (hcat : (rest.map fun v => v.category).sum ≤ 8)
    (k : ∀ (r t' : Int32) (H1 : Heap) (locs1 : List Loc), lqN s H1 locs1 → lqM D Γ km M t' H1 → (∀ a : Nat, 84 ≤ Γ a → H1[a]? = H[a]?) → ((la_ok t n ∧ r = t + n ∧ t' = t + n) ∨ (¬ la_ok t n ∧ r = -1 ∧ t' = t)) → W p l e room_1 s m #[Value.ref b] below meth c H1 locs1 600000 7302250 Q (F0 m (pc + 3) ls (.int r :: rest))) :
    W p l e room_1 s m #[Value.ref b] below meth c H locs 600000 7302250 Q (F0 m pc ls (.int n :: .ref M :: rest)) :=
  lq_late1 hF hls rfl hM hP hn hr hZ hB hd hN hI.1 hI.2.1 hk hI.2.2.2 hcat (fun r t' H1 locs1 hH1 hFr hN1 f4 hr1 => k r t' H1 locs1 hN1 ⟨hH1, hI.2.1, lq_kM hI hoM hFr.2.2.2, f4⟩ (fun a ha => hFr.2.1 a ha) hr1)
theorem lq_laM (hF : nhFx p c s m #[Value.ref b] code 4 20 D) (hls : ls.size = 4) {idx : Nat} (h0 : lq_mB idx nlM0_en 1 12 = true) (h1 : lq_mB idx nlM1_en 1 12 = true) {pc : Nat} (hd : decode code pc = .ok (.invokevirtual idx, 3)) {n tx tm : Int32} (hJ : lqJ s D X M h tx tm H locs) {rest : List Value} (hcat : (rest.map fun v => v.category).sum ≤ 8)
    (k : ∀ (r t' : Int32) (H1 : Heap) (locs1 : List Loc), lqJ s D X M h tx t' H1 locs1 → ((la_ok tm n ∧ r = tm + n ∧ t' = tm + n) ∨ (¬ la_ok tm n ∧ r = -1 ∧ t' = tm)) → W p l e room_1 s m #[Value.ref b] below meth c H1 locs1 600000 7302250 Q (F0 m (pc + 3) ls (.int r :: rest))) :
    W p l e room_1 s m #[Value.ref b] below meth c H locs 600000 7302250 Q (F0 m pc ls (.int n :: .ref M :: rest)) := by
  obtain ⟨hN, hx, Γ, km, hr, hkm, hZ, hI⟩ := hJ
  have hr' : ∀ a, Γ a < 84 → s.heap.size ≤ a := fun a ha => by
    have := hr a ha
    omega
  rcases hkm with ⟨rfl, hp⟩ | ⟨rfl, hp⟩
  · exact lq_laM1 hF hls nlM0_later (by decide +kernel) rfl (by decide +kernel) hr' hZ h0 hd hN (lq_k40 (Or.inl rfl)) hI hcat (fun r t' H1 locs1 hN1 hI1 ho hr1 => k r t' H1 locs1 ⟨hN1, hx.kept (lq_mk hr ho), Γ, 40, hr, Or.inl ⟨rfl, hp⟩, hZ, hI1⟩ hr1)
  · exact lq_laM1 hF hls nlM1_later (by decide +kernel) rfl (by decide +kernel) hr' hZ h1 hd hN (lq_k40 (Or.inr rfl)) hI hcat (fun r t' H1 locs1 hN1 hI1 ho hr1 => k r t' H1 locs1 ⟨hN1, hx.kept (lq_mk hr ho), Γ, 41, hr, Or.inr ⟨rfl, hp⟩, hZ, hI1⟩ hr1)
theorem lq_later (hC : lx_In p s m meth c b L xs D X M i ls) (hW : lqW s D X M h H locs) {pc i1 i2 : Nat} (hB : lq_caseLB pc i1 i2 [false] = true) (hX : lq_mB i1 nlX_en 1 11 = true) (hR : lq_mB i1 nlR_en 1 11 = true) (h0 : lq_mB i2 nlM0_en 1 12 = true) (h1 : lq_mB i2 nlM1_en 1 12 = true)
    (k : ∀ (H1 : Heap) (locs1 : List Loc), lqW s D X M h H1 locs1 → W p l e room_1 s m #[Value.ref b] below meth c H1 locs1 600000 7302250 Q (F0 m 1522 ls [])) :
    W p l e room_1 s m #[Value.ref b] below meth c H locs 600000 7302250 Q (F0 m pc ls []) := by
  obtain ⟨t, hJ⟩ := hW
  have hF := lx_nhFx hC
  have hC' := hC
  obtain ⟨⟨hx, hb, hr, hml, hown, hts, hXX, hbl, hlocks, hgv⟩, hL, hi, hK, hl⟩ := hC'
  simp only [lq_caseLB, Bool.and_eq_true] at hB
  obtain ⟨b0, b1, b2, b3, b4, b5, b6⟩ := hB
  refine lv_aload_n hx hb (lx_d (of_decide_eq_true b0)) rfl (lv_at hl 2 rfl) ?_
  refine lx_args hC hJ.S [false] (pc + 1) 1 _ (by decide) b1 ?_
  show W p l e room_1 s m #[Value.ref b] below meth c H locs 600000 7302250 Q (F0 m (pc + 1 + lx_sz [false]) ls [.int (xs (i + 1)), .ref X])
  refine lq_laX hF hl.1 hX hR (lx_d (of_decide_eq_true b2)) hJ (fun r t' H1 locs1 hJ1 hr1 => ?_)
  refine lv_aload_n hx hb (lx_d (of_decide_eq_true b3)) rfl (lv_at hl 1 rfl) ?_
  refine lx_args hC hJ1.S [false] (pc + 1 + lx_sz [false] + 3 + 1) 1 _ (by decide) b4 ?_
  show W p l e room_1 s m #[Value.ref b] below meth c H1 locs1 600000 7302250 Q (F0 m (pc + 1 + lx_sz [false] + 3 + 1 + lx_sz [false]) ls [.int (xs (i + 1)), .ref M, .int r])
  refine lq_laM (rest := [.int r]) hF hl.1 h0 h1 (lx_d (of_decide_eq_true b5)) hJ1 (Nat.le_of_ble_eq_true rfl) (fun r2 t2 H2 locs2 hJ2 hr2 => ?_)
  have er : r = r2 ∧ t' = t2 := by
    rcases hr1 with ⟨u1, u2, u3⟩ | ⟨u1, u2, u3⟩
    · rcases hr2 with ⟨v1, v2, v3⟩ | ⟨v1, v2, v3⟩
      · exact ⟨by rw [u2, v2], by rw [u3, v3]⟩
      · exact absurd u1 v1
    · rcases hr2 with ⟨v1, v2, v3⟩ | ⟨v1, v2, v3⟩
      · exact absurd v1 u1
      · exact ⟨by rw [u2, v2], by rw [u3, v3]⟩
  obtain ⟨rfl, rfl⟩ := er
  refine lv_icmp_eq (tgt := 1522) hx hb (lx_d (of_decide_eq_true b6)) (by omega) (fun _ => ?_) (fun hne => absurd rfl hne)
  exact k H2 locs2 ⟨t', hJ2⟩
theorem lq_land0 (hF : nhFx p c s m #[Value.ref b] code 4 20 D) (hls : ls.size = 4) {idx : Nat} (hB : lq_mB idx nkl0_en 0 12 = true) {pc : Nat} (hd : decode code pc = .ok (.invokevirtual idx, 3)) {tx tm : Int32} {Γ : Nat → Nat} (hp : nkb0_pu Γ) (hr : ∀ a, Γ a < 84 → s.heap.size + 281 ≤ a) (hZ : nkZ (D, nkKds, Γ) s) (hN : lqN s H locs) (hx : lqXs s D X h tx H) (hI : lqM D Γ 40 M tm H)
    (k : ∀ (z : Int32) (H1 : Heap) (locs1 : List Loc), lqJ s D X M h tx tm H1 locs1 → W p l e room_1 s m #[Value.ref b] below meth c H1 locs1 600000 7302250 Q (F0 m (pc + 3) ls [.int z])) :
    W p l e room_1 s m #[Value.ref b] below meth c H locs 600000 7302250 Q (F0 m pc ls [.ref M]) := by
  unfold lq_mB at hB
  rw [Bool.and_eq_true] at hB
  obtain ⟨hfd, hB⟩ := hB
  have hfd := of_decide_eq_true hfd
  obtain ⟨hH, g2, e3, e5⟩ := id hI
  have hr' : ∀ a, Γ a < 84 → s.heap.size ≤ a := fun a ha => by
    have := hr a ha
    omega
  split at hB
  · rename_i y r hy hr0
    obtain ⟨c1, c2, c3, c4, c5⟩ := of_decide_eq_true hB
    obtain ⟨V, hV, -⟩ := hH.1 M nkKds_40 (show nkKds[Γ M]? = some nkKds_40 by rw [g2]; rfl)
    have hT : nkT (D, nkKds, Γ) nkl0_en.2.2.2.2.1 (fun _ => .ref M) H := ⟨nk_all_cons ⟨M, rfl, g2⟩ (nk_all_nil _ _), fun q hq => (by cases hq), fun q hq => (by cases hq), fun q hq => (by cases hq), hH⟩
    refine lq_callM (As := []) (rest := []) hF hy (nh_find_ok hfd) hd c1 (fr := nkl0_en.2.1) (lo := nkl0_en.2.2.1) c4 c5 (nkl0_land (ρ := fun _ => .ref M) hp (a := M) rfl y hy) (nkPc_blind _ _ _ _) c2.symm (fun U hU hW => ⟨rfl, by rw [hU]; exact hT, hF.2.2.2.2.2.moved hW.alike, hZ.to2 hW (fun q hq => by rw [hU]; exact hN.2.1 q hq)⟩) hls (Nat.le_of_ble_eq_true rfl) ⟨12, r, 64, V, hr0, c3, hV⟩ (Nat.le_refl _) (Nat.le_refl _) (fun v st t locs1 h0 hQ hl => ?_)
    rcases hQ with ⟨ho, hH1, hFr⟩ | ⟨n, ho, n1, n2, hH1, hFr, z1, z2⟩
    · cases ho
      rw [h0] at hFr
      exact k _ t.heap locs1 ⟨hN.next rfl hr' hFr hl, hx.kept (lq_mk hr (fun a ha => hFr.2.1 a ha)), Γ, 40, hr, Or.inl ⟨rfl, hp⟩, hZ, hH1, g2, lq_kM hI (show lq_offM 40 nkl0_W = true by decide +kernel) hFr.2.2.2, lq_fk hFr.2.2.2 g2 (by decide +kernel) e5⟩
    · cases ho
      rw [h0] at hFr
      have s2 : nkSw (Γ M) = 41 := by rw [g2]; rfl
      have d5 := lq_fk (f := 61) (g := 41) hFr.2.2.2 s2 (by decide +kernel) (lq_swM0 g2 e5)
      have hrn : ∀ a, (fun a => nkSw (Γ a)) a < 84 → s.heap.size + 281 ≤ a := fun a ha => hr a (by
        have ha : nkSw (Γ a) < 84 := ha
        have := nkSw_84 (Γ a)
        omega)
      have hrn' : ∀ a, (fun a => nkSw (Γ a)) a < 84 → s.heap.size ≤ a := fun a ha => by
        have := hrn a ha
        omega
      exact k _ t.heap locs1 ⟨hN.next rfl hrn' hFr (fun q hq => (hl q hq).imp id (fun g => by
        have g : Γ q.base < 84 := g
        have := nkSw_84 (Γ q.base)
        show nkSw (Γ q.base) < 84
        omega)), hx.kept (lq_mk hrn (fun a ha => hFr.2.1 a ha)), fun a => nkSw (Γ a), 41, hrn, Or.inr ⟨rfl, fun a => nkb0_pu' hp a⟩, hZ.md, hH1, s2, ⟨0, 0, z1, z2, by decide⟩, d5⟩
  · cases hB
theorem lq_land1 (hF : nhFx p c s m #[Value.ref b] code 4 20 D) (hls : ls.size = 4) {idx : Nat} (hB : lq_mB idx nkl1_en 0 12 = true) {pc : Nat} (hd : decode code pc = .ok (.invokevirtual idx, 3)) {tx tm : Int32} {Γ : Nat → Nat} (hp : nkb1_pu Γ) (hr : ∀ a, Γ a < 84 → s.heap.size + 281 ≤ a) (hZ : nkZ (D, nkKds, Γ) s) (hN : lqN s H locs) (hx : lqXs s D X h tx H) (hI : lqM D Γ 41 M tm H)
    (k : ∀ (z : Int32) (H1 : Heap) (locs1 : List Loc), lqJ s D X M h tx tm H1 locs1 → W p l e room_1 s m #[Value.ref b] below meth c H1 locs1 600000 7302250 Q (F0 m (pc + 3) ls [.int z])) :
    W p l e room_1 s m #[Value.ref b] below meth c H locs 600000 7302250 Q (F0 m pc ls [.ref M]) := by
  unfold lq_mB at hB
  rw [Bool.and_eq_true] at hB
  obtain ⟨hfd, hB⟩ := hB
  have hfd := of_decide_eq_true hfd
  obtain ⟨hH, g2, e3, e5⟩ := id hI
  have hr' : ∀ a, Γ a < 84 → s.heap.size ≤ a := fun a ha => by
    have := hr a ha
    omega
  split at hB
  · rename_i y r hy hr0
    obtain ⟨c1, c2, c3, c4, c5⟩ := of_decide_eq_true hB
    obtain ⟨V, hV, -⟩ := hH.1 M nkKds_41 (show nkKds[Γ M]? = some nkKds_41 by rw [g2]; rfl)
    have hT : nkT (D, nkKds, Γ) nkl1_en.2.2.2.2.1 (fun _ => .ref M) H := ⟨nk_all_cons ⟨M, rfl, g2⟩ (nk_all_nil _ _), fun q hq => (by cases hq), fun q hq => (by cases hq), fun q hq => (by cases hq), hH⟩
    refine lq_callM (As := []) (rest := []) hF hy (nh_find_ok hfd) hd c1 (fr := nkl1_en.2.1) (lo := nkl1_en.2.2.1) c4 c5 (nkl1_land (ρ := fun _ => .ref M) hp (a := M) rfl y hy) (nkPc_blind _ _ _ _) c2.symm (fun U hU hW => ⟨rfl, by rw [hU]; exact hT, hF.2.2.2.2.2.moved hW.alike, hZ.to2 hW (fun q hq => by rw [hU]; exact hN.2.1 q hq)⟩) hls (Nat.le_of_ble_eq_true rfl) ⟨12, r, 64, V, hr0, c3, hV⟩ (Nat.le_refl _) (Nat.le_refl _) (fun v st t locs1 h0 hQ hl => ?_)
    rcases hQ with ⟨ho, hH1, hFr⟩ | ⟨n, ho, n1, n2, hH1, hFr, z1, z2⟩
    · cases ho
      rw [h0] at hFr
      exact k _ t.heap locs1 ⟨hN.next rfl hr' hFr hl, hx.kept (lq_mk hr (fun a ha => hFr.2.1 a ha)), Γ, 41, hr, Or.inr ⟨rfl, hp⟩, hZ, hH1, g2, lq_kM hI (show lq_offM 41 nkl1_W = true by decide +kernel) hFr.2.2.2, lq_fk hFr.2.2.2 g2 (by decide +kernel) e5⟩
    · cases ho
      rw [h0] at hFr
      have s2 : nkSw (Γ M) = 40 := by rw [g2]; rfl
      have d5 := lq_fk (f := 61) (g := 40) hFr.2.2.2 s2 (by decide +kernel) (lq_swM1 g2 e5)
      have hrn : ∀ a, (fun a => nkSw (Γ a)) a < 84 → s.heap.size + 281 ≤ a := fun a ha => hr a (by
        have ha : nkSw (Γ a) < 84 := ha
        have := nkSw_84 (Γ a)
        omega)
      have hrn' : ∀ a, (fun a => nkSw (Γ a)) a < 84 → s.heap.size ≤ a := fun a ha => by
        have := hrn a ha
        omega
      exact k _ t.heap locs1 ⟨hN.next rfl hrn' hFr (fun q hq => (hl q hq).imp id (fun g => by
        have g : Γ q.base < 84 := g
        have := nkSw_84 (Γ q.base)
        show nkSw (Γ q.base) < 84
        omega)), hx.kept (lq_mk hrn (fun a ha => hFr.2.1 a ha)), fun a => nkSw (Γ a), 40, hrn, Or.inl ⟨rfl, fun a => nkb1_pu' hp a⟩, hZ.md, hH1, s2, ⟨0, 0, z1, z2, by decide⟩, d5⟩
  · cases hB
theorem lq_landM (hF : nhFx p c s m #[Value.ref b] code 4 20 D) (hls : ls.size = 4) {idx : Nat} (hB0 : lq_mB idx nkl0_en 0 12 = true) (hB1 : lq_mB idx nkl1_en 0 12 = true) {pc : Nat} (hd : decode code pc = .ok (.invokevirtual idx, 3)) {tx tm : Int32} (hJ : lqJ s D X M h tx tm H locs)
    (k : ∀ (z : Int32) (H1 : Heap) (locs1 : List Loc), lqJ s D X M h tx tm H1 locs1 → W p l e room_1 s m #[Value.ref b] below meth c H1 locs1 600000 7302250 Q (F0 m (pc + 3) ls [.int z])) :
    W p l e room_1 s m #[Value.ref b] below meth c H locs 600000 7302250 Q (F0 m pc ls [.ref M]) := by
  obtain ⟨hN, hx, Γ, km, hr, hkm, hZ, hI⟩ := hJ
  rcases hkm with ⟨rfl, hp⟩ | ⟨rfl, hp⟩
  · exact lq_land0 hF hls hB0 hd hp hr hZ hN hx hI k
  · exact lq_land1 hF hls hB1 hd hp hr hZ hN hx hI k
end LQK
