/-! THE CLAIM OUT OF ONE WALK OF THE LAW'S BODY. Your part is whole_start (and what it stands on); all else here is the same for every law, but numbers. -/
def R_law : String := "NightHousesLaw"
def lw_P (b : Addr) (xs : List Int32) (args : Array Value) (s : State) : Prop := args = #[.ref b] ∧ s.IntsAt b xs ∧ xs.length ≤ 6 ∧ (Jvm.Cond.and given_1 narrow_1).before args s = true
def lw_Q (_ : Array Value) (s : State) (o : Outcome) (t : State) : Prop := o = .returned (some (.int 1)) ∧ Framed s o t [] 600000 7302250
def lw_Z (below : List Frame) (a : Array Value) (s : State) : State → Prop := fun t => ∃ o, t.status = .running ∧ Ended t below o ∧ lw_Q a s o t
/-- the law's own end, with 1 on the stack, nothing written that was there before, its room as the claim has it -/
theorem lw_ret {p : Program} {l : Launch} {e : Env} {s : State} {m : MethodId} {below : List Frame} {meth : Method} {c : Code} {b : Nat} (hx : p.tables.exec = Jvm.exec) (hb : c.code = code) (hr : meth.sig.returnType = ret) (hlocks : meth.locks = false) {pc : Nat} {H : Heap} {ls : Array Slot} (hdg : decode code pc = .ok (.ireturn, 1)) : W p l e room_1 s m #[Value.ref b] below meth c H [] 600000 7302250 (lw_Z below #[Value.ref b] s) (F0 m pc ls [.int 1]) := by
  intro T hT X
  obtain ⟨fs, hret, hrun, hended, hW, hframe⟩ := X.leave (v := some (.int 1)) (hlocks := hlocks) (fun h => by rw [hr] at h; cases h)
  have hmeth' : T.vm.method? m = some meth := X.method'
  refine ⟨T.setFrames fs, ?_, .returned (some (.int 1)), hrun, hended, rfl, ⟨_, rfl⟩, hW, hframe⟩
  jvm_step X.here [X.here.top, hx, hb, hdg, hmeth', hr, ret, narrow_b1]
  (try refine ⟨rfl, ?_⟩); (try refine ⟨rfl, ?_⟩)
  first | (intro acts; rw [hret _ acts rfl rfl rfl]) | rw [hret _ _ rfl rfl rfl]
  exact Steps.refl _
/-- what holds at the law's entry: the machine, the code, the tables' words (any of lw_tbl by 'hts w (by decide +kernel)'), the script of L ints xs at the cell b, what the Statement gives of the start (any of its parts by flat_of_before) -/
def lw_At (p : Program) (s : State) (m : MethodId) (meth : Method) (c : Code) (b L : Nat) (xs : Nat → Int32) : Prop :=
  p.tables.exec = Jvm.exec ∧ c.code = code ∧ meth.sig.returnType = ret ∧ c.maxLocals = 4 ∧ s.vm.findClass R_law = some m.cls ∧ (∀ w ∈ lw_tbl, w.before #[Value.ref b] s = true) ∧ va_X b L xs s s.heap ∧ b < s.heap.size ∧ meth.locks = false ∧ (Jvm.Cond.and given_1 narrow_1).before #[Value.ref b] s = true
/-! the law's frame: its arguments, its calls, its end -/
def lx_argB (pc k : Nat) : Bool := decide (ce_dk lxT pc = some (.aload_n 0, 1)) && (decide (ce_dk lxT (pc + 1) = some (.iload_n 3, 1)) && (decide (ce_dk lxT (pc + 2) = some (.iconst (k : Int), 1)) && (decide (ce_dk lxT (pc + 3) = some (.iadd, 1)) && decide (ce_dk lxT (pc + 4) = some (.iaload, 1)))))
def lx_boolB (pc : Nat) : Bool := decide (ce_dk lxT pc = some (.ifCond .eq 7, 3)) && (decide (ce_dk lxT (pc + 3) = some (.iconst 1, 1)) && (decide (ce_dk lxT (pc + 4) = some (.goto 4, 3)) && decide (ce_dk lxT (pc + 7) = some (.iconst 0, 1))))
def lx_sz : List Bool → Nat
  | [] => 0
  | true :: r => 13 + lx_sz r
  | false :: r => 5 + lx_sz r
def lx_argsB : Nat → Nat → List Bool → Bool
  | _, _, [] => true
  | pc, k, true :: r => lx_argB pc k && (lx_boolB (pc + 5) && lx_argsB (pc + 13) (k + 1) r)
  | pc, k, false :: r => lx_argB pc k && lx_argsB (pc + 5) (k + 1) r
def lx_b01 (x : Int32) : Int32 := if x = 0 then 0 else 1
def lx_vals (xs : Nat → Int32) : Nat → List Bool → List Value
  | _, [] => []
  | k, true :: r => .int (lx_b01 (xs k)) :: lx_vals xs (k + 1) r
  | k, false :: r => .int (xs k) :: lx_vals xs (k + 1) r
theorem lx_ix (k : Nat) (hk : k < 6) : vp_in ((0 : Int32) + Int32.ofInt (k : Int)) 6 ∧ ((0 : Int32) + Int32.ofInt (k : Int)).toNatClampNeg = k := by
  unfold vp_in
  match k, hk with
  | 0, _ => exact ⟨by decide, by decide⟩
  | 1, _ => exact ⟨by decide, by decide⟩
  | 2, _ => exact ⟨by decide, by decide⟩
  | 3, _ => exact ⟨by decide, by decide⟩
  | 4, _ => exact ⟨by decide, by decide⟩
  | 5, _ => exact ⟨by decide, by decide⟩
  | n + 6, h => exact absurd h (by omega)
/-- a method of the class or of the reference that the law calls -/
def lx_mB (idx mn n ci : Nat) : Bool := decide (nh_find (nhLn.getD 20 []) idx = some mn) && (match nhMt[mn]?, nhCl[ci]? with
  | some y, some r => decide (y.2.2.2.2.1 = false ∧ y.2.2.1 ≤ 41 ∧ y.2.2.2.2.2 = n ∧ r.1 = y.1.cls)
  | _, _ => false)
def lx_caseB (pc idx1 idx2 mx mm : Nat) (ds : List Bool) : Bool := (decide (ce_dk lxT pc = some (.aload_n 1, 1)) && (lx_argsB (pc + 1) 1 ds && (decide (ce_dk lxT (pc + 1 + lx_sz ds) = some (.invokevirtual idx1, 3)) && (decide (ce_dk lxT (pc + 1 + lx_sz ds + 3) = some (.aload_n 2, 1)) && (lx_argsB (pc + 1 + lx_sz ds + 3 + 1) 1 ds && (decide (ce_dk lxT (pc + 1 + lx_sz ds + 3 + 1 + lx_sz ds) = some (.invokevirtual idx2, 3)) && decide (ce_dk lxT (pc + 1 + lx_sz ds + 3 + 1 + lx_sz ds + 3) = some (.if_icmp .eq (1522 - ((pc + 1 + lx_sz ds + 3 + 1 + lx_sz ds + 3 : Nat) : Int)), 3)))))))) && (decide (mx < 1000 ∧ mm < 1000) && (lx_mB idx1 mx ds.length 11 && lx_mB idx2 mm ds.length 12))
section LX
variable {p : Program} {l : Launch} {e : Env} {s : State} {m : MethodId} {below : List Frame} {meth : Method} {c : Code} {b : Nat} {xs : Nat → Int32} {D : nhD} {H : Heap} {locs : List Loc} {ls : Array Slot} {cn cz : Nat} {Q : State → Prop}
def lx_In (p : Program) (s : State) (m : MethodId) (meth : Method) (c : Code) (b : Nat) (xs : Nat → Int32) (D : nhD) (ls : Array Slot) : Prop := lw_At p s m meth c b 6 xs ∧ nhK D s ∧ ceNs s ∧ lv_has ls 4 [(3, .int 0), (2, .ref (s.heap.size + 281)), (1, .ref (s.heap.size + 0)), (0, .ref b)]
def lx_Hp (D : nhD) (xs : Nat → Int32) (s : State) (hp : ceHp) (H : Heap) (locs : List Loc) : Prop := ceH D (fun k => xs (k + 1)) s.heap.size s.heap hp H ∧ ∀ q ∈ locs, s.heap.size ≤ q.base
theorem lx_S {hp : ceHp} (h : lx_Hp D xs s hp H locs) : va_S (fun q : Nat => s.heap.size ≤ q) s.heap H locs := ⟨by rw [h.1.1]; omega, fun q h1 _ => h.1.2.1 q h1, h.2⟩
theorem lx_arg (hC : lx_In p s m meth c b xs D ls) (hS : va_S (fun q : Nat => s.heap.size ≤ q) s.heap H locs) {k pc : Nat} {rest : List Value} (hk : k < 6) (h : lx_argB pc k = true)
    (kk : W p l e room_1 s m #[Value.ref b] below meth c H locs cn cz Q (F0 m (pc + 5) ls (.int (xs k) :: rest))) : W p l e room_1 s m #[Value.ref b] below meth c H locs cn cz Q (F0 m pc ls rest) := by
  obtain ⟨⟨hx, hb, hr, hml, hown, hts, hX, hbl, hlocks, hgv⟩, hK, hNs, hl⟩ := hC
  unfold lx_argB at h
  rw [Bool.and_eq_true, Bool.and_eq_true, Bool.and_eq_true, Bool.and_eq_true] at h
  obtain ⟨h0, h1, h2, h3, h4⟩ := h
  have d0 := lx_d (of_decide_eq_true h0)
  have d1 := lx_d (of_decide_eq_true h1)
  have d2 := lx_d (of_decide_eq_true h2)
  have d3 := lx_d (of_decide_eq_true h3)
  have d4 := lx_d (of_decide_eq_true h4)
  refine lv_aload_n hx hb d0 rfl (lv_at hl 3 rfl) ?_
  refine lv_iload_n hx hb d1 rfl (lv_at hl 0 rfl) ?_
  refine lv_iconst hx hb d2 rfl ?_
  refine lv_iadd hx hb d3 ?_
  refine va_sld hx hb hX hbl (Nat.not_le.mpr hbl) hS (lx_ix k hk).1 d4 ?_
  rw [(lx_ix k hk).2]
  exact kk
theorem lx_bool (hC : lx_In p s m meth c b xs D ls) {pc : Nat} {rest : List Value} {x : Int32} (h : lx_boolB pc = true)
    (kk : W p l e room_1 s m #[Value.ref b] below meth c H locs cn cz Q (F0 m (pc + 8) ls (.int (lx_b01 x) :: rest))) : W p l e room_1 s m #[Value.ref b] below meth c H locs cn cz Q (F0 m pc ls (.int x :: rest)) := by
  obtain ⟨⟨hx, hb, hr, hml, hown, hts, hX, hbl, hlocks, hgv⟩, hK, hNs, hl⟩ := hC
  unfold lx_boolB at h
  rw [Bool.and_eq_true, Bool.and_eq_true, Bool.and_eq_true] at h
  obtain ⟨h0, h1, h2, h3⟩ := h
  have d0 := lx_d (of_decide_eq_true h0)
  have d1 := lx_d (of_decide_eq_true h1)
  have d2 := lx_d (of_decide_eq_true h2)
  have d3 := lx_d (of_decide_eq_true h3)
  refine nh_ifW (t := pc + 7) hx hb d0 (by omega) (fun hc => ?_) (fun hc => ?_)
  · refine lv_iconst (v := 0) hx hb d3 rfl ?_
    have hc : x.toInt = 0 := by simpa [nh_cr] using hc
    have : x = 0 := Int32.toInt_inj.mp hc
    unfold lx_b01 at kk
    rw [if_pos this] at kk
    exact kk
  · refine lv_iconst (v := 1) hx hb d1 rfl ?_
    refine lv_goto (tgt := pc + 8) hx hb d2 (by omega) ?_
    have hc : ¬ x.toInt = 0 := by simpa [nh_cr] using hc
    have : ¬ x = 0 := fun q => hc (by rw [q]; rfl)
    unfold lx_b01 at kk
    rw [if_neg this] at kk
    exact kk
theorem lx_args (hC : lx_In p s m meth c b xs D ls) (hS : va_S (fun q : Nat => s.heap.size ≤ q) s.heap H locs) : ∀ (ds : List Bool) (pc k : Nat) (rest : List Value), k + ds.length ≤ 6 → lx_argsB pc k ds = true →
    W p l e room_1 s m #[Value.ref b] below meth c H locs cn cz Q (F0 m (pc + lx_sz ds) ls ((lx_vals xs k ds).reverse ++ rest)) → W p l e room_1 s m #[Value.ref b] below meth c H locs cn cz Q (F0 m pc ls rest)
  | [], pc, k, rest, _, _, kk => kk
  | true :: r, pc, k, rest, hk, h, kk => by
    unfold lx_argsB at h
    rw [Bool.and_eq_true, Bool.and_eq_true] at h
    rw [List.length_cons] at hk
    refine lx_arg hC hS (by omega) h.1 ?_
    refine lx_bool hC h.2.1 ?_
    refine lx_args hC hS r (pc + 13) (k + 1) _ (by omega) h.2.2 ?_
    rw [lx_vals, List.reverse_cons, List.append_assoc, lx_sz, ← Nat.add_assoc] at kk
    exact kk
  | false :: r, pc, k, rest, hk, h, kk => by
    unfold lx_argsB at h
    rw [Bool.and_eq_true] at h
    rw [List.length_cons] at hk
    refine lx_arg hC hS (by omega) h.1 ?_
    refine lx_args hC hS r (pc + 5) (k + 1) _ (by omega) h.2 ?_
    rw [lx_vals, List.reverse_cons, List.append_assoc, lx_sz, ← Nat.add_assoc] at kk
    exact kk
theorem lx_after {R : Room} {args : Array Value} {ρ : Nat → Int32} {B : Nat} {H0 : Heap} {pc mc ms : Nat} {st0 rest : List Value} {r : Option ceV} {hp' : ceHp} {a : Array Value} (hloc : ∀ q ∈ locs, B ≤ q.base) (hr : va_Run p l e R s m args below meth c H locs cn cz mc ms (F0 m pc ls st0) rest (ceQc D ρ B H0 r hp' a) (fun a => B ≤ a))
    (k : ∀ (H' : Heap) (locs' : List Loc), ceH D ρ B H0 hp' H' → (∀ q ∈ locs', B ≤ q.base) → W p l e R s m args below meth c H' locs' (cn + mc) (cz + ms) Q (F0 m (pc + 3) ls ((r.map (ce_c ρ B)).toList ++ rest))) : W p l e R s m args below meth c H locs cn cz Q (F0 m pc ls st0) := by
  intro T hT X
  obtain ⟨v, st₀, t, T', L, h0, X', hL, e1, e2, ⟨hv, hh⟩, st⟩ := hr T hT X
  have hv' : v = r.map (ce_c ρ B) := Outcome.returned.inj hv
  subst hv'
  obtain ⟨t2, a1, b1⟩ := k t.heap (locs ++ L) hh (fun q hq => by
    rcases List.mem_append.mp hq with h | h
    · exact hloc q h
    · exact hL q h) T' e1 X'
  exact ⟨t2, st t2 a1, b1⟩
theorem lx_call (hC : lx_In p s m meth c b xs D ls) {hp hp' : ceHp} (hH : lx_Hp D xs s hp H locs) {pc idx mn o ci : Nat} {as : List ceV} {y : nhMth} {r : ceV} {rest : List Value} (hmn : mn < 1000) (hB : lx_mB idx mn as.length ci = true) (hrc : ce_rcv hp o ci = true) (hy : ce_m mn = some y) (hM : ceMet y 14 ((2, (o : Int)) :: as) hp (some r) hp' 0 0) (hd : decode code pc = .ok (.invokevirtual idx, 3)) (hrest : (rest.map fun v => v.category).sum ≤ 8) (hcn : cn ≤ 600000) (hcz : cz ≤ 7302250)
    (k : ∀ (H' : Heap) (locs' : List Loc), lx_Hp D xs s hp' H' locs' → W p l e room_1 s m #[Value.ref b] below meth c H' locs' cn cz Q (F0 m (pc + 3) ls (ce_c (fun k => xs (k + 1)) s.heap.size r :: rest))) :
    W p l e room_1 s m #[Value.ref b] below meth c H locs cn cz Q (F0 m pc ls ((as.map (ce_c (fun k => xs (k + 1)) s.heap.size)).reverse ++ .ref (s.heap.size + o) :: rest)) := by
  obtain ⟨⟨hx, hb, hr, hml, hown, hts0, hX, hbl, hlocks, hgv⟩, hK, hNs, hl⟩ := hC
  have hts : ∀ w ∈ nhTb, w.before #[Value.ref b] s = true := fun w hw => hts0 w (List.mem_filter.mp hw).1
  unfold ce_m at hy
  rw [if_pos hmn] at hy
  unfold lx_mB at hB
  rw [Bool.and_eq_true] at hB
  obtain ⟨hfd, hB⟩ := hB
  have hfd := of_decide_eq_true hfd
  rw [hy] at hB
  split at hB
  · rename_i y' r0 ey er
    cases ey
    obtain ⟨c1, c2, c3, c4⟩ := of_decide_eq_true hB
    obtain ⟨m1, m2, m3, m4, m5, m6⟩ := nh_mt_ok hy
    obtain ⟨n1, n2⟩ := m4 c1
    have hlink := nh_lk_ok (o := 20) (C := "NightHousesLaw") rfl (nh_find_ok hfd) hy
    dsimp only at hlink
    unfold ce_rcv at hrc
    split at hrc
    · rename_i kk hkk
      rw [Bool.and_eq_true] at hrc
      have k1 := Nat.eq_of_beq_eq_true hrc.1
      have k2 := Nat.eq_of_beq_eq_true hrc.2
      obtain ⟨t, ci', fs⟩ := kk
      dsimp only at k1 k2
      subst k1 k2
      obtain ⟨cell, q1, q2, q3, q4⟩ : t_OB (s.heap.size + o) (D.1 ci') fs.length (D.2.1 ci') H (fun k => ce_c (fun k => xs (k + 1)) s.heap.size (fs.getD k (3, 0))) := hH.1.2.2 _ _ hkk
      have hPre : ∀ U : State, U.heap = H → s.WarmedH U.vm → cePc D (fun k => xs (k + 1)) s.heap.size s.heap ((2, (o : Int)) :: as) hp (((2, (o : Int)) :: as).map (ce_c (fun k => xs (k + 1)) s.heap.size)).toArray U := fun U hU hW => ⟨rfl, by rw [hU]; exact hH.1, hK.moved hW.alike, hNs.warm hW⟩
      have hB2 := callB_of (R := room_1) (mc := 0) (ms := 0) (rm := ceRm 14 0 0) y.2.2.2.2.2 hts (nhGoodIn m1) rfl rfl rfl (hts _ m2) (hts _ hlink) m5 ⟨by show 14 + 1 ≤ 2048; omega, by show 8 + (y.2.2.1 + 11) + 60 * 14 ≤ 84000; omega⟩
      refine lx_after (mc := 0) (ms := 0) (rest := rest) (r := some r) (hp' := hp') (a := (((2, (o : Int)) :: as).map (ce_c (fun k => xs (k + 1)) s.heap.size)).toArray) hH.2 ?_ (fun H' locs' h1 h2 => k H' locs' ⟨h1, h2⟩)
      exact va_runV (b := s.heap.size + o) (As := as.map (ce_c (fun k => xs (k + 1)) s.heap.size)) (rest := rest) ⟨hx, hb, hml, hown, hts⟩ (hM l D (fun k => xs (k + 1)) s.heap.size s.heap) ⟨hB2, hts _ n1, hts _ n2⟩ ⟨cePc_blind _ _ _ _ _ _, ⟨cell, q1, by rw [q3]; rfl, by rw [q2, ← c4]; exact (hK.1 ci' r0 er).2.1⟩, hPre⟩ rfl (by rw [List.length_map, c3]) hl.1 rfl (lv_room hrest) hd ⟨hcn, hcz⟩
    · cases hrc
  · cases hB
theorem lx_d1522 : ce_dk lxT 1522 = some (.iinc 3 6, 3) ∧ ce_dk lxT 1525 = some (.goto (-1507), 3) ∧ ce_dk lxT 18 = some (.iload_n 3, 1) ∧ ce_dk lxT 19 = some (.aload_n 0, 1) ∧ ce_dk lxT 20 = some (.arraylength, 1) ∧ ce_dk lxT 21 = some (.bipush 6, 2) ∧ ce_dk lxT 23 = some (.isub, 1) ∧ ce_dk lxT 24 = some (.if_icmp .gt 1504, 3) ∧ ce_dk lxT 1528 = some (.iconst 1, 1) ∧ ce_dk lxT 1529 = some (.ireturn, 1) := by decide +kernel
theorem lx_end {L : Nat} (hC : lw_At p s m meth c b L xs) (hloc : ∀ q ∈ locs, s.heap.size ≤ q.base) : W p l e room_1 s m #[Value.ref b] below meth c H locs 600000 7302250 (lw_Z below #[Value.ref b] s) (F0 m 1528 ls []) := by
  obtain ⟨hx, hb, hr, hml, hown, hts, hX, hbl, hlocks, hgv⟩ := hC
  refine lv_iconst (v := 1) hx hb (lx_d lx_d1522.2.2.2.2.2.2.2.2.1) rfl ?_
  refine va_forget hloc ?_
  exact lw_ret hx hb hr hlocks (lx_d lx_d1522.2.2.2.2.2.2.2.2.2)
theorem lx_tail (hC : lx_In p s m meth c b xs D ls) {hp : ceHp} (hH : lx_Hp D xs s hp H locs) : W p l e room_1 s m #[Value.ref b] below meth c H locs 600000 7302250 (lw_Z below #[Value.ref b] s) (F0 m 1522 ls []) := by
  have hS := lx_S hH
  obtain ⟨hA, hK, hNs, hl⟩ := hC
  have hA' := hA
  obtain ⟨hx, hb, hr, hml, hown, hts, hX, hbl, hlocks, hgv⟩ := hA'
  refine lv_iinc (v := 6) (lv' := [(3, .int 6), (2, .ref (s.heap.size + 281)), (1, .ref (s.heap.size + 0)), (0, .ref b)]) hx hb (lx_d lx_d1522.1) hl (k := 0) rfl (by decide) (by decide) rfl (fun ls hl => ?_)
  refine lv_goto (tgt := 18) hx hb (lx_d lx_d1522.2.1) (by decide) ?_
  refine lv_iload_n hx hb (lx_d lx_d1522.2.2.1) rfl (lv_at hl 0 rfl) ?_
  refine lv_aload_n hx hb (lx_d lx_d1522.2.2.2.1) rfl (lv_at hl 3 rfl) ?_
  refine va_slen hx hb hX hbl (Nat.not_le.mpr hbl) hS (lx_d lx_d1522.2.2.2.2.1) ?_
  refine lv_bipush (v := 6) hx hb (lx_d lx_d1522.2.2.2.2.2.1) rfl ?_
  refine lv_isub hx hb (lx_d lx_d1522.2.2.2.2.2.2.1) ?_
  refine lv_icmp_gt (tgt := 1528) hx hb (lx_d lx_d1522.2.2.2.2.2.2.2.1) (by decide) (fun _ => ?_) (fun hc => absurd (by decide) hc)
  exact lx_end hA hH.2
theorem cw3_rcv : ce_rcv cw3 0 11 = true := by decide +kernel
theorem lx_case (hC : lx_In p s m meth c b xs D ls) (hH : lx_Hp D xs s cw3 H locs) {pc idx1 idx2 mx mm : Nat} {ds : List Bool} (hds : ds.length ≤ 5) (h : lx_caseB pc idx1 idx2 mx mm ds = true) (h2 : ∃ as, ceTwo 14 mx mm cw3 as ∧ as.map (ce_c (fun k => xs (k + 1)) s.heap.size) = lx_vals xs 1 ds) : W p l e room_1 s m #[Value.ref b] below meth c H locs 600000 7302250 (lw_Z below #[Value.ref b] s) (F0 m pc ls []) := by
  obtain ⟨as, ⟨yx, ym, r, hp1, hp2, g1, g3, g2, g4, ht, hrc⟩, hv⟩ := h2
  have hC' := hC
  obtain ⟨⟨hx, hb, hr, hml, hown, hts, hX, hbl, hlocks, hgv⟩, hK, hNs, hl⟩ := hC'
  unfold lx_caseB at h
  simp only [Bool.and_eq_true] at h
  obtain ⟨⟨h0, h1, h2, h3, h4, h5, h6⟩, h7, h8, h9⟩ := h
  have hmm := of_decide_eq_true h7
  have hlen : as.length = ds.length := by
    have e1 := congrArg List.length hv
    rw [List.length_map] at e1
    rw [e1]
    clear hv h1 h2 h3 h4 h5 h6 h8 h9 hds e1
    generalize 1 = k
    induction ds generalizing k with
    | nil => rfl
    | cons d r ih => cases d <;> simp [lx_vals, ih]
  rw [← hlen] at h8 h9
  refine lv_aload_n hx hb (lx_d (of_decide_eq_true h0)) rfl (lv_at hl 2 rfl) ?_
  refine lx_args hC (lx_S hH) ds (pc + 1) 1 _ (by omega) h1 ?_
  rw [← hv]
  refine lx_call hC hH (o := 0) hmm.1 h8 cw3_rcv g1 g2 (lx_d (of_decide_eq_true h2)) (Nat.le_of_ble_eq_true rfl) (Nat.le_refl _) (Nat.le_refl _) (fun H1 locs1 hH1 => ?_)
  refine lv_aload_n hx hb (lx_d (of_decide_eq_true h3)) rfl (lv_at hl 1 rfl) ?_
  refine lx_args hC (lx_S hH1) ds (pc + 1 + lx_sz ds + 3 + 1) 1 _ (by omega) h4 ?_
  rw [← hv]
  obtain ⟨a, ha⟩ := (ce_ty_ok (fun k => xs (k + 1)) s.heap.size (v := r)).1 ht
  rw [ha]
  refine lx_call hC hH1 (o := 281) hmm.2 h9 hrc g3 g4 (lx_d (of_decide_eq_true h5)) (Nat.le_of_ble_eq_true rfl) (Nat.le_refl _) (Nat.le_refl _) (fun H2 locs2 hH2 => ?_)
  rw [ha]
  refine lv_icmp_eq (tgt := 1522) hx hb (lx_d (of_decide_eq_true h6)) (by omega) (fun _ => lx_tail hC hH2) (fun hc => absurd rfl hc)
end LX
/-! from the trees to the arguments -/
theorem lx_in (ρ : Nat → Int32) (N : Nat) : ceIn ρ 0 (List.replicate N (-2147483648, 2147483647)) := fun k b hb => by
  rw [List.getElem?_replicate] at hb
  split at hb
  · cases hb
    have h1 := (ρ (0 + k)).le_toInt
    have h2 := (ρ (0 + k)).toInt_lt
    dsimp only
    omega
  · cases hb
theorem lx_tr {f : List ceV → Bool} {n N : Nat} {t : List (Nat × Int)} (hN : N ≤ 5) (ρ : Nat → Int32) (B : Nat) (h : ce_tk f n t (List.replicate N (-2147483648, 2147483647)) = true) : ∃ as, f as = true ∧ as.map (ce_c ρ B) = (List.range' 0 N).map (fun k => Value.int (ρ k)) := by
  obtain ⟨r, hr⟩ := ce_tk_ok h
  obtain ⟨bx, g1, g2, g3, g4⟩ := ce_tree_ok (ρ := ρ) n t _ r hr (lx_in ρ N)
  rw [List.length_replicate] at g2
  exact ⟨_, g1, by rw [ce_bx_ok ρ B bx 0 (by omega) g3 g4, g2]⟩
theorem lx_v (xs : Nat → Int32) : ∀ (N j : Nat) (tl : List Bool), (List.range' j N).map (fun k => Value.int (xs (k + 1))) ++ lx_vals xs (j + N + 1) tl = lx_vals xs (j + 1) (List.replicate N false ++ tl)
  | 0, _, _ => rfl
  | N + 1, j, tl => by
    rw [List.range'_succ, List.map_cons, List.replicate_succ, List.cons_append, List.cons_append, lx_vals, ← lx_v xs N (j + 1) tl]
    congr 2
    congr 1
    omega
theorem lx_of {f : List ceV → Bool} {mx mm n N : Nat} {t : List (Nat × Int)} {xs : Nat → Int32} {B : Nat} (hf : ∀ as, f as = true → ceTwo 14 mx mm cw3 as) (hN : N ≤ 5) (h : ce_tk f n t (List.replicate N (-2147483648, 2147483647)) = true) : ∃ as, ceTwo 14 mx mm cw3 as ∧ as.map (ce_c (fun k => xs (k + 1)) B) = lx_vals xs 1 (List.replicate N false) := by
  obtain ⟨as, g1, g2⟩ := lx_tr hN (fun k => xs (k + 1)) B h
  refine ⟨as, hf _ g1, ?_⟩
  have := lx_v xs N 0 []
  rw [List.append_nil] at this
  rw [g2, ← this]
  exact (List.append_nil _).symm
theorem lx_ofB {f : List ceV → Bool} {mx mm n0 n1 N : Nat} {t0 t1 : List (Nat × Int)} {xs : Nat → Int32} {B : Nat} (hf : ∀ as, f as = true → ceTwo 14 mx mm cw3 as) (hN : N ≤ 5) (h0 : ce_tk (fun as => f (as ++ [(0, 0)])) n0 t0 (List.replicate N (-2147483648, 2147483647)) = true) (h1 : ce_tk (fun as => f (as ++ [(0, 1)])) n1 t1 (List.replicate N (-2147483648, 2147483647)) = true) : ∃ as, ceTwo 14 mx mm cw3 as ∧ as.map (ce_c (fun k => xs (k + 1)) B) = lx_vals xs 1 (List.replicate N false ++ [true]) := by
  have hv := lx_v xs N 0 [true]
  by_cases hq : xs (0 + N + 1) = 0
  · obtain ⟨as, g1, g2⟩ := lx_tr hN (fun k => xs (k + 1)) B h0
    refine ⟨as ++ [(0, 0)], hf _ g1, ?_⟩
    rw [List.map_append, g2, ← hv, lx_vals, lx_b01, if_pos hq]
    rfl
  · obtain ⟨as, g1, g2⟩ := lx_tr hN (fun k => xs (k + 1)) B h1
    refine ⟨as ++ [(0, 1)], hf _ g1, ?_⟩
    rw [List.map_append, g2, ← hv, lx_vals, lx_b01, if_neg hq]
    rfl
