/-! the law: the head of the skeleton; its frame -/
def R_law : String := "NightHousesLaw"
def lw_P (b : Addr) (xs : List Int32) (args : Array Value) (s : State) : Prop := args = #[.ref b] ∧ s.IntsAt b xs ∧ xs.length ≤ 3072 ∧ (Jvm.Cond.and given_1 narrow_1).before args s = true
def lw_Q (_ : Array Value) (s : State) (o : Outcome) (t : State) : Prop := o = .returned (some (.int 1)) ∧ Framed s o t [] 600000 7302250
def lw_Z (below : List Frame) (a : Array Value) (s : State) : State → Prop := fun t => ∃ o, t.status = .running ∧ Ended t below o ∧ lw_Q a s o t
/-- the law's own end, with 1 on the stack, nothing written that was there before, its room as the claim has it -/
theorem lw_ret {p : Program} {l : Launch} {e : Env} {s : State} {m : MethodId} {below : List Frame} {meth : Method} {c : Code} {b : Nat} (hx : p.tables.exec = Jvm.exec) (hb : c.code = code) (hr : meth.sig.returnType = ret) (hlocks : meth.locks = false) {pc : Nat} {H : Heap} {ls : Array Slot} (hdg : decode code pc = .ok (.ireturn, 1)) : W p l e room_1 s m #[Value.ref b] below meth c H [] 600000 7302250 (lw_Z below #[Value.ref b] s) (F0 m pc ls [.int 1]) := by
  intro T hT X
  obtain ⟨fs, hret, hrun, hended, hW, hframe⟩ := X.leave (v := some (.int 1)) (hlocks := hlocks) (fun h => by rw [hr] at h; cases h)
  have hmeth' : T.vm.method? m = some meth := X.method'
  refine ⟨T.setFrames fs, ?_, .returned (some (.int 1)), hrun, hended, rfl, ⟨_, rfl⟩, hW, hframe⟩
  jvm_step X.here [X.here.top, hx, hb, hdg, hmeth', hr, ret, narrow_b1]
  (try refine ⟨rfl, ?_⟩); (try refine ⟨rfl, ?_⟩)
  first | (intro acts; rw [hret _ acts rfl rfl rfl]) | rw [hret _ _ rfl rfl rfl]
  exact Steps.refl _
/-- what holds at the law's entry: the machine, the code, the tables' words (any of lw_tbl by 'hts w (by decide +kernel)'), the script of L ints xs at the cell b, what the Statement gives of the start (any of its parts by flat_of_before) -/
def lw_At (p : Program) (s : State) (m : MethodId) (meth : Method) (c : Code) (b L : Nat) (xs : Nat → Int32) : Prop :=
  p.tables.exec = Jvm.exec ∧ c.code = code ∧ meth.sig.returnType = ret ∧ c.maxLocals = 4 ∧ s.vm.findClass R_law = some m.cls ∧ (∀ w ∈ lw_tbl, w.before #[Value.ref b] s = true) ∧ va_X b L xs s s.heap ∧ b < s.heap.size ∧ meth.locks = false ∧ (Jvm.Cond.and given_1 narrow_1).before #[Value.ref b] s = true
def lx_argB (pc k : Nat) : Bool := decide (ce_dk lxT pc = some (.aload_n 0, 1)) && (decide (ce_dk lxT (pc + 1) = some (.iload_n 3, 1)) && (decide (ce_dk lxT (pc + 2) = some (.iconst (k : Int), 1)) && (decide (ce_dk lxT (pc + 3) = some (.iadd, 1)) && decide (ce_dk lxT (pc + 4) = some (.iaload, 1)))))
def lx_boolB (pc : Nat) : Bool := decide (ce_dk lxT pc = some (.ifCond .eq 7, 3)) && (decide (ce_dk lxT (pc + 3) = some (.iconst 1, 1)) && (decide (ce_dk lxT (pc + 4) = some (.goto 4, 3)) && decide (ce_dk lxT (pc + 7) = some (.iconst 0, 1))))
def lx_sz : List Bool → Nat
  | [] => 0
  | true :: r => 13 + lx_sz r
  | false :: r => 5 + lx_sz r
def lx_argsB : Nat → Nat → List Bool → Bool
  | _, _, [] => true
  | pc, k, true :: r => lx_argB pc k && (lx_boolB (pc + 5) && lx_argsB (pc + 13) (k + 1) r)
  | pc, k, false :: r => lx_argB pc k && lx_argsB (pc + 5) (k + 1) r
def lx_b01 (x : Int32) : Int32 := if x = 0 then 0 else 1
def lx_vals (xs : Nat → Int32) : Nat → List Bool → List Value
  | _, [] => []
  | k, true :: r => .int (lx_b01 (xs k)) :: lx_vals xs (k + 1) r
  | k, false :: r => .int (xs k) :: lx_vals xs (k + 1) r
theorem lx_vlen (xs : Nat → Int32) : ∀ (ds : List Bool) (k : Nat), (lx_vals xs k ds).length = ds.length
  | [], _ => rfl
  | true :: r, k => by rw [lx_vals, List.length_cons, List.length_cons, lx_vlen xs r (k + 1)]
  | false :: r, k => by rw [lx_vals, List.length_cons, List.length_cons, lx_vlen xs r (k + 1)]
theorem lx_k (k : Nat) (hk : k < 6) : Int32.ofInt (k : Int) = nI k := by
  match k, hk with
  | 0, _ => decide
  | 1, _ => decide
  | 2, _ => decide
  | 3, _ => decide
  | 4, _ => decide
  | 5, _ => decide
  | n + 6, h => exact absurd h (by omega)
/-- what holds in the law's frame at its i-th int -/
def lx_In (p : Program) (s : State) (m : MethodId) (meth : Method) (c : Code) (b L : Nat) (xs : Nat → Int32) (D : nhD) (X M i : Nat) (ls : Array Slot) : Prop := lw_At p s m meth c b L xs ∧ L ≤ 3072 ∧ i + 6 ≤ L ∧ nhK D s ∧ lv_has ls 4 [(3, .int (nI i)), (2, .ref M), (1, .ref X), (0, .ref b)]
section LX
variable {p : Program} {l : Launch} {e : Env} {s : State} {m : MethodId} {below : List Frame} {meth : Method} {c : Code} {b L X M i : Nat} {xs : Nat → Int32} {D : nhD} {H : Heap} {locs : List Loc} {ls : Array Slot} {cn cz : Nat} {Q : State → Prop}
theorem lx_arg (hC : lx_In p s m meth c b L xs D X M i ls) (hS : va_S (fun q : Nat => s.heap.size ≤ q) s.heap H locs) {k pc : Nat} {rest : List Value} (hk : k < 6) (h : lx_argB pc k = true)
    (kk : W p l e room_1 s m #[Value.ref b] below meth c H locs cn cz Q (F0 m (pc + 5) ls (.int (xs (i + k)) :: rest))) : W p l e room_1 s m #[Value.ref b] below meth c H locs cn cz Q (F0 m pc ls rest) := by
  obtain ⟨⟨hx, hb, hr, hml, hown, hts, hX, hbl, hlocks, hgv⟩, hL, hi, hK, hl⟩ := hC
  unfold lx_argB at h
  rw [Bool.and_eq_true, Bool.and_eq_true, Bool.and_eq_true, Bool.and_eq_true] at h
  obtain ⟨h0, h1, h2, h3, h4⟩ := h
  have d0 := lx_d (of_decide_eq_true h0)
  have d1 := lx_d (of_decide_eq_true h1)
  have d2 := lx_d (of_decide_eq_true h2)
  have d3 := lx_d (of_decide_eq_true h3)
  have d4 := lx_d (of_decide_eq_true h4)
  refine lv_aload_n hx hb d0 rfl (lv_at hl 3 rfl) ?_
  refine lv_iload_n hx hb d1 rfl (lv_at hl 0 rfl) ?_
  refine lv_iconst hx hb d2 (lx_k k hk) ?_
  refine lv_iadd hx hb d3 ?_
  rw [nI_add]
  have hcl : (nI (i + k)).toNatClampNeg = i + k := nI_clamp (by omega)
  refine va_sld hx hb hX hbl (Nat.not_le.mpr hbl) hS (i := nI (i + k)) (nI_in (by omega) (by omega)) d4 ?_
  rw [hcl]
  exact kk
theorem lx_bool (hC : lx_In p s m meth c b L xs D X M i ls) {pc : Nat} {rest : List Value} {x : Int32} (h : lx_boolB pc = true)
    (kk : W p l e room_1 s m #[Value.ref b] below meth c H locs cn cz Q (F0 m (pc + 8) ls (.int (lx_b01 x) :: rest))) : W p l e room_1 s m #[Value.ref b] below meth c H locs cn cz Q (F0 m pc ls (.int x :: rest)) := by
  obtain ⟨⟨hx, hb, hr, hml, hown, hts, hX, hbl, hlocks, hgv⟩, hL, hi, hK, hl⟩ := hC
  unfold lx_boolB at h
  rw [Bool.and_eq_true, Bool.and_eq_true, Bool.and_eq_true] at h
  obtain ⟨h0, h1, h2, h3⟩ := h
  have d0 := lx_d (of_decide_eq_true h0)
  have d1 := lx_d (of_decide_eq_true h1)
  have d2 := lx_d (of_decide_eq_true h2)
  have d3 := lx_d (of_decide_eq_true h3)
  refine nh_ifW (t := pc + 7) hx hb d0 (by omega) (fun hc => ?_) (fun hc => ?_)
  · refine lv_iconst (v := 0) hx hb d3 rfl ?_
    have hc : x.toInt = 0 := by simpa [nh_cr] using hc
    have : x = 0 := Int32.toInt_inj.mp hc
    unfold lx_b01 at kk
    rw [if_pos this] at kk
    exact kk
  · refine lv_iconst (v := 1) hx hb d1 rfl ?_
    refine lv_goto (tgt := pc + 8) hx hb d2 (by omega) ?_
    have hc : ¬ x.toInt = 0 := by simpa [nh_cr] using hc
    have : ¬ x = 0 := fun q => hc (by rw [q]; rfl)
    unfold lx_b01 at kk
    rw [if_neg this] at kk
    exact kk
theorem lx_args (hC : lx_In p s m meth c b L xs D X M i ls) (hS : va_S (fun q : Nat => s.heap.size ≤ q) s.heap H locs) : ∀ (ds : List Bool) (pc k : Nat) (rest : List Value), k + ds.length ≤ 6 → lx_argsB pc k ds = true →
    W p l e room_1 s m #[Value.ref b] below meth c H locs cn cz Q (F0 m (pc + lx_sz ds) ls ((lx_vals (fun j => xs (i + j)) k ds).reverse ++ rest)) → W p l e room_1 s m #[Value.ref b] below meth c H locs cn cz Q (F0 m pc ls rest)
  | [], pc, k, rest, _, _, kk => kk
  | true :: r, pc, k, rest, hk, h, kk => by
    unfold lx_argsB at h
    rw [Bool.and_eq_true, Bool.and_eq_true] at h
    rw [List.length_cons] at hk
    refine lx_arg hC hS (by omega) h.1 ?_
    refine lx_bool hC h.2.1 ?_
    refine lx_args hC hS r (pc + 13) (k + 1) _ (by omega) h.2.2 ?_
    rw [lx_vals, List.reverse_cons, List.append_assoc, lx_sz, ← Nat.add_assoc] at kk
    exact kk
  | false :: r, pc, k, rest, hk, h, kk => by
    unfold lx_argsB at h
    rw [Bool.and_eq_true] at h
    rw [List.length_cons] at hk
    refine lx_arg hC hS (by omega) h.1 ?_
    refine lx_args hC hS r (pc + 5) (k + 1) _ (by omega) h.2 ?_
    rw [lx_vals, List.reverse_cons, List.append_assoc, lx_sz, ← Nat.add_assoc] at kk
    exact kk
end LX
theorem lx_d1522 : ce_dk lxT 1522 = some (.iinc 3 6, 3) ∧ ce_dk lxT 1525 = some (.goto (-1507), 3) ∧ ce_dk lxT 18 = some (.iload_n 3, 1) ∧ ce_dk lxT 19 = some (.aload_n 0, 1) ∧ ce_dk lxT 20 = some (.arraylength, 1) ∧ ce_dk lxT 21 = some (.bipush 6, 2) ∧ ce_dk lxT 23 = some (.isub, 1) ∧ ce_dk lxT 24 = some (.if_icmp .gt 1504, 3) ∧ ce_dk lxT 1528 = some (.iconst 1, 1) ∧ ce_dk lxT 1529 = some (.ireturn, 1) := by decide +kernel
theorem lx_end {p : Program} {l : Launch} {e : Env} {s : State} {m : MethodId} {below : List Frame} {meth : Method} {c : Code} {b L : Nat} {xs : Nat → Int32} {H : Heap} {locs : List Loc} {ls : Array Slot} (hC : lw_At p s m meth c b L xs) (hloc : ∀ q ∈ locs, s.heap.size ≤ q.base) : W p l e room_1 s m #[Value.ref b] below meth c H locs 600000 7302250 (lw_Z below #[Value.ref b] s) (F0 m 1528 ls []) := by
  obtain ⟨hx, hb, hr, hml, hown, hts, hX, hbl, hlocks, hgv⟩ := hC
  refine lv_iconst (v := 1) hx hb (lx_d lx_d1522.2.2.2.2.2.2.2.2.1) rfl ?_
  refine va_forget hloc ?_
  exact lw_ret hx hb hr hlocks (lx_d lx_d1522.2.2.2.2.2.2.2.2.2)
/-! calls of the law by contracts -/
section LQ
variable {p : Program} {l : Launch} {e : Env} {R : Room} {s : State} {m : MethodId} {args : Array Value} {below : List Frame} {meth : Method} {c : Code} {Q : State → Prop} {cc : ByteArray} {nL own pc cn cz : Nat} {D : nhD}
theorem lq_callM (hF : nhFx p c s m args cc nL own D) {idx mn : Nat} {y : nhMth} (hy : nhMt[mn]? = some y) (hlk : (idx, mn) ∈ nhLn.getD own []) (hd : decode cc pc = .ok (.invokevirtual idx, 3)) (hst : y.2.2.2.2.1 = false) {fr lo : Nat} (hfr : fr + 1 ≤ R.frames) (hlo : 8 + (y.2.2.1 + 11) + lo ≤ R.locals)
    {Pc : Array Value → State → Prop} {Qc : Array Value → State → Outcome → State → Prop} {A : Nat → Prop} (hMM : Met l y.1 (nhWs y) (nkRm fr lo) Pc Qc 0 0 A) (hblind : FrameBlind Pc) {a : Nat} {As : List Value} (hlen : As.length = y.2.2.2.2.2) {H : Heap} {locs : List Loc} {ls : Array Slot} {rest : List Value} (hPre : ∀ U : State, U.heap = H → s.WarmedH U.vm → Pc (Value.ref a :: As).toArray U) (hls : ls.size = nL) (hcat : (rest.map fun v => v.category).sum ≤ 8)
    (hrecv : ∃ (ci : Nat) (r : vw_C) (N : Nat) (V : Nat → Value), nhCl[ci]? = some r ∧ r.1 = y.1.cls ∧ t_OB a (D.1 ci) N (D.2.1 ci) H V) (hcn : cn ≤ R.cells) (hcz : cz ≤ R.slots)
    (k : ∀ (v : Option Value) (st t : State) (locs1 : List Loc), st.heap = H → Qc (Value.ref a :: As).toArray st (.returned v) t → (∀ q ∈ locs1, q ∈ locs ∨ A q.base) → W p l e R s m args below meth c t.heap locs1 cn cz Q (F0 m (pc + 3) ls (v.toList ++ rest))) :
    W p l e R s m args below meth c H locs cn cz Q (F0 m pc ls (As.reverse ++ .ref a :: rest)) := by
  obtain ⟨hx, hb, hml, ⟨C, hC, hown⟩, hts, hK⟩ := hF
  obtain ⟨m1, m2, m3, m4, m5, m6⟩ := nh_mt_ok hy
  have hlink := nh_lk_ok hC hlk hy
  dsimp only at hlink
  have hB : CallB R s args C idx y.1 y.2.1 y.2.2.1 y.2.2.2.1 (nhWs y) (nkRm fr lo) 0 0 y.2.2.2.2.2 := callB_of y.2.2.2.2.2 hts (nhGoodIn m1) rfl rfl rfl (hts _ m2) (hts _ hlink) m5 ⟨hfr, hlo⟩
  have hfin : va_Run p l e R s m args below meth c H locs cn cz 0 0 (F0 m pc ls (As.reverse ++ .ref a :: rest)) rest (Qc (Value.ref a :: As).toArray) A := by
    obtain ⟨n1, n2⟩ := m4 hst
    obtain ⟨ci, r, N, V, hr, hrn, cell, q1, q2, q3, q4⟩ := hrecv
    exact va_runV (b := a) (As := As) (rest := rest) ⟨hx, hb, hml, hown, hts⟩ hMM ⟨hB, hts _ n1, hts _ n2⟩ ⟨hblind, ⟨cell, q1, by rw [q3]; rfl, by rw [q2, ← hrn]; exact (hK.1 ci r hr).2.1⟩, hPre⟩ rfl hlen hls rfl (lv_room hcat) hd ⟨hcn, hcz⟩
  intro T hT X
  obtain ⟨v, st₀, t, T', L, h0, X', hL, e1, e2, hq, st⟩ := hfin T hT X
  obtain ⟨t2, a1, b1⟩ := k v st₀ t (locs ++ L) h0 hq (fun q hq => by
    rcases List.mem_append.mp hq with h | h
    · exact Or.inl h
    · exact Or.inr (hL q h)) T' e1 X'
  exact ⟨t2, st t2 a1, b1⟩
end LQ
/-! values and their bounds in a row -/
def lq_okL (Γ : Nat → Nat) : List nkV → List Value → Prop
  | [], [] => True
  | v :: r, x :: t => nkOk Γ v x ∧ lq_okL Γ r t
  | _, _ => False
theorem lq_okL_len {Γ : Nat → Nat} : ∀ {vs : List nkV} {xs : List Value}, lq_okL Γ vs xs → vs.length = xs.length
  | [], [], _ => rfl
  | v :: r, x :: t, h => by rw [List.length_cons, List.length_cons, lq_okL_len h.2]
  | [], x :: t, h => h.elim
  | v :: r, [], h => h.elim
theorem lq_okL_at {Γ : Nat → Nat} : ∀ {vs : List nkV} {xs : List Value}, lq_okL Γ vs xs → ∀ (i : Nat) (v : nkV), vs[i]? = some v → nkOk Γ v (xs.getD i .null)
  | [], [], _, i, v, hi => by simp at hi
  | v :: r, x :: t, h, 0, w, hi => by
    have e : v = w := by simpa using hi
    subst e
    exact h.1
  | v :: r, x :: t, h, i + 1, w, hi => by
    have := lq_okL_at h.2 i w (by simpa using hi)
    simpa using this
  | [], x :: t, h, _, _, _ => h.elim
  | v :: r, [], h, _, _, _ => h.elim
theorem lq_okL_app {Γ : Nat → Nat} : ∀ {vs : List nkV} {xs : List Value} {vs' : List nkV} {xs' : List Value}, lq_okL Γ vs xs → lq_okL Γ vs' xs' → lq_okL Γ (vs ++ vs') (xs ++ xs')
  | [], [], _, _, _, h => h
  | v :: r, x :: t, _, _, h, h' => ⟨h.1, lq_okL_app h.2 h'⟩
  | [], x :: t, _, _, h, _ => h.elim
  | v :: r, [], _, _, h, _ => h.elim
theorem lq_allL {Γ : Nat → Nat} {vs : List nkV} {xs : List Value} (h : lq_okL Γ vs xs) {n : Nat} (hn : n = vs.length) : nkAll Γ n vs.reverse (fun i => xs.getD i .null) := fun i v hi => by
  subst hn
  have e : nk_g vs.reverse vs.length i = vs[i]? := by
    have := nk_g_rev vs.reverse i
    rw [List.length_reverse, List.reverse_reverse] at this
    exact this
  rw [e] at hi
  exact lq_okL_at h i v hi
def lq_ty (d : Bool) : nkV := match d with
  | true => (0, 18446744073709551616, 18446744073709551617)
  | false => nk_fl
theorem lq_okV {Γ : Nat → Nat} (xs : Nat → Int32) : ∀ (ds : List Bool) (k : Nat), lq_okL Γ (ds.map lq_ty) (lx_vals xs k ds)
  | [], _ => trivial
  | true :: r, k => by
    refine ⟨?_, lq_okV xs r (k + 1)⟩
    unfold lx_b01
    split
    · exact ⟨0, rfl, by decide, by decide⟩
    · exact ⟨1, rfl, by decide, by decide⟩
  | false :: r, k => ⟨nk_fl_ok _ _, lq_okV xs r (k + 1)⟩
