/-! the law from its entry -/
theorem lx_inst {ci : Nat} {r : vw_C} (h : nhCl[ci]? = some r) : ∃ n, Cond.instantiable r.1 n ∈ nhTb := by
  match ci, h with
  | 0, h => cases h; exact ⟨9, nh_wd_ok (i := 469) (by decide +kernel)⟩
  | 1, h => cases h; exact ⟨5, nh_wd_ok (i := 157) (by decide +kernel)⟩
  | 2, h => cases h; exact ⟨4, nh_wd_ok (i := 394) (by decide +kernel)⟩
  | 3, h => cases h; exact ⟨14, nh_wd_ok (i := 151) (by decide +kernel)⟩
  | 4, h => cases h; exact ⟨8, nh_wd_ok (i := 343) (by decide +kernel)⟩
  | 5, h => cases h; exact ⟨7, nh_wd_ok (i := 438) (by decide +kernel)⟩
  | 6, h => cases h; exact ⟨13, nh_wd_ok (i := 262) (by decide +kernel)⟩
  | 7, h => cases h; exact ⟨10, nh_wd_ok (i := 507) (by decide +kernel)⟩
  | 8, h => cases h; exact ⟨17, nh_wd_ok (i := 143) (by decide +kernel)⟩
  | 9, h => cases h; exact ⟨7, nh_wd_ok (i := 268) (by decide +kernel)⟩
  | 10, h => cases h; exact ⟨4, nh_wd_ok (i := 418) (by decide +kernel)⟩
  | 11, h => cases h; exact ⟨17, nh_wd_ok (i := 143) (by decide +kernel)⟩
  | 12, h => cases h; exact ⟨64, nh_wd_ok (i := 1377) (by decide +kernel)⟩
  | n + 13, h => simp at h
theorem lx_arrs {args : Array Value} {s : State} (hts : ∀ w ∈ nhTb, w.before args s = true) (hAO : va_AO "NightHouses$Night" s) : ∀ k : Nat, ∃ cA : ClassId, ∀ ty, nhTy[k]? = some ty → ArrOfT s cA ty ∧ va_RA s cA ty
  | 0 => by
    obtain ⟨cA, kA, comp, a1, a2, a3⟩ := Cond.arrayClass_spec (hts (.arrayClass .int) (nh_wd_ok (i := 181) (by decide +kernel)))
    exact ⟨cA, fun ty h => by cases h; exact ⟨fun n z => ⟨fun k h => (by cases h), kA, a2, comp, a3⟩, a1⟩⟩
  | 1 => by
    obtain ⟨cA, kA, comp, a1, a2, a3⟩ := Cond.arrayClass_spec (hts (.arrayClass .byte) (nh_wd_ok (i := 180) (by decide +kernel)))
    exact ⟨cA, fun ty h => by cases h; exact ⟨fun n z => ⟨fun k h => (by cases h), kA, a2, comp, a3⟩, a1⟩⟩
  | 2 => by
    obtain ⟨cA, kA, comp, a1, a2, a3⟩ := Cond.arrayClass_spec (hts (.arrayClass .long) (nh_wd_ok (i := 341) (by decide +kernel)))
    exact ⟨cA, fun ty h => by cases h; exact ⟨fun n z => ⟨fun k h => (by cases h), kA, a2, comp, a3⟩, a1⟩⟩
  | 3 => by
    obtain ⟨cA, kA, comp, a1, a2, a3⟩ := Cond.arrayClass_spec (hts (.arrayClass .boolean) (nh_wd_ok (i := 546) (by decide +kernel)))
    exact ⟨cA, fun ty h => by cases h; exact ⟨fun n z => ⟨fun k h => (by cases h), kA, a2, comp, a3⟩, a1⟩⟩
  | 4 => by
    obtain ⟨comp, cA, kA, b1, b2, b3, b4, b5⟩ := Cond.arrayOver_spec hAO
    exact ⟨cA, fun ty h => by cases h; exact ⟨fun n z => ⟨fun k h => (by cases h), kA, b3, comp, b4⟩, kA, comp, b3, b4, b1, b5⟩⟩
  | n + 5 => ⟨0, fun ty h => by simp at h⟩
theorem lx_known {args : Array Value} {s : State} (hts : ∀ w ∈ nhTb, w.before args s = true) (hAO : va_AO "NightHouses$Night" s) : ∃ D : nhD, nhK D s := by
  have h1 : ∀ c : Nat, ∃ x : ClassId × (Nat → Nat), ∀ q, nhCl[c]? = some q → u_Kn s q.1 q.2.1 q.2.2 x.1 x.2 := by
    intro c
    cases hq : nhCl[c]? with
    | none => exact ⟨(0, fun _ => 0), fun q h => by cases h⟩
    | some q =>
      obtain ⟨n, hn⟩ := lx_inst hq
      obtain ⟨cC, iS, h⟩ := u_known hts (nhCl_in hq).1 (hts _ hn)
      exact ⟨(cC, iS), fun q' h' => by cases h'; exact h⟩
  have h2 := lx_arrs hts hAO
  exact ⟨(fun c => (Classical.choose (h1 c)).1, fun c => (Classical.choose (h1 c)).2, fun k => Classical.choose (h2 k)), fun c q hq => Classical.choose_spec (h1 c) q hq, fun k ty hk => Classical.choose_spec (h2 k) ty hk⟩
set_option maxRecDepth 100000 in
theorem lx_nw0 : ceNw.map (fun q => some (Cond.methodLinkNest q.1 q.2.1 q.2.2 "NightHouses")) = [152, 158, 263, 269, 344, 401, 419, 444, 470, 475, 508, 513].map (fun i => lw_tbl[i]?) := rfl
theorem lx_nw {q : String × Nat × MethodName} (hq : q ∈ ceNw) : Cond.methodLinkNest q.1 q.2.1 q.2.2 "NightHouses" ∈ lw_tbl := by
  have h1 : some (Cond.methodLinkNest q.1 q.2.1 q.2.2 "NightHouses") ∈ ceNw.map (fun q => some (Cond.methodLinkNest q.1 q.2.1 q.2.2 "NightHouses")) := List.mem_map.mpr ⟨q, hq, rfl⟩
  rw [lx_nw0] at h1
  obtain ⟨i, -, hi⟩ := List.mem_map.mp h1
  exact List.mem_of_getElem? hi
theorem lx_ns {args : Array Value} {s : State} (hts : ∀ w ∈ lw_tbl, w.before args s = true) : ceNs s := ⟨fun q hq => va_Nw.of rfl (hts _ (lx_nw hq)), va_AO.of (hts (.arrayOver (.object "NightHouses$Night")) (List.mem_of_getElem? (i := 400) (by decide +kernel)))⟩
section LX0
variable {p : Program} {l : Launch} {e : Env} {s : State} {m : MethodId} {below : List Frame} {meth : Method} {c : Code} {b : Nat} {xs : Nat → Int32} {D : nhD} {H : Heap} {locs : List Loc} {ls : Array Slot} {cn cz : Nat} {Q : State → Prop}
theorem lx_after {R : Room} {args : Array Value} {ρ : Nat → Int32} {B : Nat} {H0 : Heap} {pc mc ms : Nat} {st0 rest : List Value} {r : Option ceV} {hp' : ceHp} {a : Array Value} (hloc : ∀ q ∈ locs, B ≤ q.base) (hr : va_Run p l e R s m args below meth c H locs cn cz mc ms (F0 m pc ls st0) rest (ceQc D ρ B H0 r hp' a) (fun a => B ≤ a))
    (k : ∀ (H' : Heap) (locs' : List Loc), ceH D ρ B H0 hp' H' → (∀ q ∈ locs', B ≤ q.base) → W p l e R s m args below meth c H' locs' (cn + mc) (cz + ms) Q (F0 m (pc + 3) ls ((r.map (ce_c ρ B)).toList ++ rest))) : W p l e R s m args below meth c H locs cn cz Q (F0 m pc ls st0) := by
  intro T hT X
  obtain ⟨v, st₀, t, T', L, h0, X', hL, e1, e2, ⟨hv, hh⟩, st⟩ := hr T hT X
  have hv' : v = r.map (ce_c ρ B) := Outcome.returned.inj hv
  subst hv'
  obtain ⟨t2, a1, b1⟩ := k t.heap (locs ++ L) hh (fun q hq => by
    rcases List.mem_append.mp hq with h | h
    · exact hloc q h
    · exact hL q h) T' e1 X'
  exact ⟨t2, st t2 a1, b1⟩
end LX0
section LX3
variable {p : Program} {l : Launch} {e : Env} {R : Room} {s : State} {m : MethodId} {args : Array Value} {below : List Frame} {meth : Method} {c : Code} {Q : State → Prop} {cc : ByteArray} {pc own nL : Nat} {D : nhD} {ρ : Nat → Int32} {B : Nat} {H0 H : Heap} {locs : List Loc} {ls : Array Slot} {rest : List Value} {cn cz : Nat} {hp : ceHp}
theorem lx_new (hF : nhFx p c s m args cc nL own D) (hH : ceH D ρ B H0 hp H) {idx : Nat} {q : Nat × Nat × Nat} {r : vw_C} (hq : (ceNl.getD own []).find? (fun q => q.1 == idx) = some q) (hr : nhCl[q.2.1]? = some r) (hok : ce_ok hp = true) (hl : (List.range r.2.2).all (fun k => match nhFt q.2.1 k with
      | .float => false
      | .double => false
      | _ => true) = true) (hd : decode cc pc = .ok (.new idx, 3)) (hcells : cn + 1 ≤ R.cells) (hslots : cz + r.2.2 ≤ R.slots)
    (k : ∀ H' : Heap, ceH D ρ B H0 (ce_push hp (0, q.2.1, (List.range r.2.2).map (fun k => ce_def (nhFt q.2.1 k)))) H' → W p l e R s m args below meth c H' locs (cn + 1) (cz + r.2.2) Q (F0 m (pc + 3) ls (.ref (B + ce_len hp) :: rest))) : W p l e R s m args below meth c H locs cn cz Q (F0 m pc ls rest) := by
  obtain ⟨hx, hb, hml, ⟨C, hC, hown⟩, hts, hK⟩ := hF
  obtain ⟨r0, g1, g2, g3, g4⟩ := ce_nlk hC hq
  rw [g1] at hr
  cases hr
  refine W.newcK hx hb hown (hts _ g2) (hts _ g3) (hts _ g4) rfl hd hcells hslots (hK.1 _ _ g1).2.1 (h := B + ce_len hp) hH.1 fun H' kC hkC e1 e2 e3 => ?_
  obtain ⟨hin, hty, hnm⟩ := nhCl_in g1
  have hO := u_born (nhFt q.2.1) hts hin (hK.1 _ _ g1) hkC e1 hty
  refine k H' (hH.push hok ?_ (by rw [e2, hH.1]) (fun w hw => e3 w (by rw [← hH.1]; exact hw)))
  unfold ceCell
  dsimp only
  rw [List.length_map, List.length_range]
  refine hO.to (fun j hj => ?_)
  rw [ce_defV ρ B _ (List.all_eq_true.mp hl j (List.mem_range.mpr hj)), List.getD_eq_getElem?_getD, List.getElem?_map, List.getElem?_range hj]
  rfl
theorem lx_ctor (hF : nhFx p c s m args cc nL 20 D) (hNs : ceNs s) (hls : ls.size = nL) (hH : ceH D ρ B H0 hp H) (hloc : ∀ q ∈ locs, B ≤ q.base) {k0 idx o mc ms : Nat} {y : nhMth} {hp' : ceHp} (hy : ceCt[k0]? = some y) (hlink : Cond.methodLink "NightHousesLaw" idx y.1 ∈ nhTb) (h0 : y.2.2.2.2.2 = 0) (h41 : y.2.2.1 ≤ 41) (hM : ceMet y 12 [(2, (o : Int))] hp none hp' mc ms) (hd : decode cc pc = .ok (.invokespecial idx, 3)) (hR : 13 ≤ R.frames ∧ 8 + (41 + 11) + 60 * 12 ≤ R.locals) (h1 : cn + mc ≤ R.cells) (h2 : cz + ms ≤ R.slots) (hrest : (rest.map fun v => v.category).sum ≤ 8)
    (k : ∀ (H' : Heap) (locs' : List Loc), ceH D ρ B H0 hp' H' → (∀ q ∈ locs', B ≤ q.base) → W p l e R s m args below meth c H' locs' (cn + mc) (cz + ms) Q (F0 m (pc + 3) ls rest)) : W p l e R s m args below meth c H locs cn cz Q (F0 m pc ls (.ref (B + o) :: rest)) := by
  obtain ⟨hx, hb, hml, ⟨C, hC, hown⟩, hts, hK⟩ := hF
  obtain ⟨m1, m2, m3, ⟨m4, m5, m6⟩, m7⟩ := ce_ct_ok hy
  have eC : C = "NightHousesLaw" := (Option.some.inj hC).symm
  subst eC
  have hPre : ∀ U : State, U.heap = H → s.WarmedH U.vm → cePc D ρ B H0 [(2, (o : Int))] hp ([(2, (o : Int))].map (ce_c ρ B)).toArray U := fun U hU hW => ⟨rfl, by rw [hU]; exact hH, hK.moved hW.alike, hNs.warm hW⟩
  have hB := callB_of (R := R) (mc := mc) (ms := ms) (rm := ceRm 12 mc ms) (bytes := y.2.1) (maxL := y.2.2.1) (ret := none) (ws := nhWs y) (ws' := nhTb) y.2.2.2.2.2 hts (nhGoodIn m1) (by unfold nhWs; rw [m5]) rfl rfl (hts _ m2) (hts _ hlink) m6 ⟨hR.1, by have := hR.2; show 8 + (y.2.2.1 + 11) + 60 * 12 ≤ R.locals; omega⟩
  refine lx_after (r := none) (hp' := hp') (a := ([(2, (o : Int))].map (ce_c ρ B)).toArray) hloc ?_ k
  exact va_runI (b := B + o) (As := []) (rest := rest) ⟨hx, hb, hml, hown, hts⟩ (hM l D ρ B H0) ⟨hB, m4, hts _ m3⟩ ⟨cePc_blind _ _ _ _ _ _, hPre⟩ rfl (by rw [h0]; rfl) hls rfl (lv_room hrest) hd ⟨h1, h2⟩
end LX3
theorem lx_y0 : ∃ y, ceCt[0]? = some y ∧ Cond.methodLink "NightHousesLaw" 9 y.1 ∈ nhTb ∧ y.2.2.2.2.2 = 0 ∧ y.2.2.1 ≤ 41 ∧ ceMet y 12 [(2, ((0 : Nat) : Int))] cw0 none cw1 280 5183 := by
  obtain ⟨y, h1, h2⟩ := ce_exec_ok _ _ _ _ _ _ _ _ _ cw1_ok
  refine ⟨y, h1, ?_, ?_, ?_, h2⟩
  · cases h1; exact nh_wd_ok (i := 144) (by decide +kernel)
  · cases h1; rfl
  · cases h1; exact Nat.le_of_ble_eq_true rfl
theorem lx_y11 : ∃ y, ceCt[11]? = some y ∧ Cond.methodLink "NightHousesLaw" 12 y.1 ∈ nhTb ∧ y.2.2.2.2.2 = 0 ∧ y.2.2.1 ≤ 41 ∧ ceMet y 12 [(2, ((281 : Nat) : Int))] cw2 none cw3 40 9072 := by
  obtain ⟨y, h1, h2⟩ := ce_exec_ok _ _ _ _ _ _ _ _ _ cw3_ok
  refine ⟨y, h1, ?_, ?_, ?_, h2⟩
  · cases h1; exact nh_wd_ok (i := 1378) (by decide +kernel)
  · cases h1; rfl
  · cases h1; exact Nat.le_of_ble_eq_true rfl
theorem lx_w0 : ce_push (0, []) (0, 11, (List.range 17).map (fun k => ce_def (nhFt 11 k))) = cw0 := ce_eqH_ok _ _ (by decide +kernel)
set_option maxRecDepth 1000000 in
theorem lx_w2 : ce_push cw1 (0, 12, (List.range 64).map (fun k => ce_def (nhFt 12 k))) = cw2 := by
  have e : (List.range 64).map (fun k => ce_def (nhFt 12 k)) = [(3, 0)] ++ [(3, 0)] ++ ce_Is [0, 0, 0, 0, 0, 0, 0, 0] ++ [(1, 0)] ++ List.replicate 21 (3, 0) ++ ce_Is [0, 0, 0, 0, 0, 0, 0] ++ [(3, 0)] ++ ce_Is [0] ++ [(3, 0)] ++ ce_Is [0] ++ [(3, 0)] ++ ce_Is [0, 0] ++ [(3, 0)] ++ [(3, 0)] ++ [(3, 0)] ++ ce_Is [0] ++ [(3, 0)] ++ ce_Is [0] ++ [(3, 0)] ++ [(3, 0)] ++ [(3, 0)] ++ [(3, 0)] ++ [(3, 0)] ++ [(3, 0)] ++ [(3, 0)] ++ [(3, 0)] ++ ce_Is [0, 0] ++ [(3, 0)] ++ [(3, 0)] := by decide +kernel
  rw [e]
  exact ce_eqH_ok _ _ cw2_ok
theorem lx_o0 : ce_ok (0, []) = true := rfl
set_option maxRecDepth 1000000 in
theorem lx_o1 : ce_ok cw1 = true := by decide +kernel
theorem lx_l1 : ce_len cw1 = 281 := rfl
def lx_f (ci N : Nat) : Bool := (List.range N).all (fun k => match nhFt ci k with
      | .float => false
      | .double => false
      | _ => true)
theorem lx_f11 : lx_f 11 17 = true := by decide +kernel
theorem lx_f12 : lx_f 12 64 = true := by decide +kernel
theorem lx_n7 : (ceNl.getD 20 []).find? (fun q => q.1 == 7) = some (7, 11, 142) ∧ (ceNl.getD 20 []).find? (fun q => q.1 == 10) = some (10, 12, 1376) := by decide +kernel
theorem lx_d0 : (ce_dk lxT 0 = some (.new 7, 3) ∧ ce_dk lxT 3 = some (.dup, 1) ∧ ce_dk lxT 4 = some (.invokespecial 9, 3) ∧ ce_dk lxT 7 = some (.astore_n 1, 1)) ∧ (ce_dk lxT 8 = some (.new 10, 3) ∧ ce_dk lxT 11 = some (.dup, 1) ∧ ce_dk lxT 12 = some (.invokespecial 12, 3) ∧ ce_dk lxT 15 = some (.astore_n 2, 1)) ∧ (ce_dk lxT 16 = some (.iconst 0, 1) ∧ ce_dk lxT 17 = some (.istore_n 3, 1)) ∧ (ce_dk lxT 27 = some (.aload_n 0, 1) ∧ ce_dk lxT 28 = some (.iload_n 3, 1) ∧ ce_dk lxT 29 = some (.iaload, 1) ∧ ce_dk lxT 30 = some (.bipush 63, 2) ∧ ce_dk lxT 32 = some (.iand, 1)) := by decide +kernel
def lx_tg : List Nat := [240, 303, 326, 339, 362, 395, 428, 467, 490, 503, 526, 549, 562, 575, 618, 641, 674, 707, 750, 783, 806, 849, 862, 885, 918, 941, 964, 977, 1000, 1033, 1046, 1059, 1108, 1121, 1144, 1167, 1190, 1203, 1236, 1259, 1318, 1341, 1364, 1387, 1420, 1453, 1476, 1499]
def lx_of48 : Array Int := #[207, 270, 293, 306, 329, 362, 395, 434, 457, 470, 493, 516, 529, 542, 585, 608, 641, 674, 717, 750, 773, 816, 829, 852, 885, 908, 931, 944, 967, 1000, 1013, 1026, 1075, 1088, 1111, 1134, 1157, 1170, 1203, 1226, 1285, 1308, 1331, 1354, 1387, 1420, 1443, 1466]
theorem lx_sw : ce_dk lxT 33 = some (.tableswitch 1489 0 47 lx_of48, 207) := by decide +kernel
theorem lx_tgs : (List.range 48).all (fun n => decide ((lx_of48[n]?).map (fun o => 33 + o) = some ((lx_tg.getD n 0 : Nat) : Int))) = true := by decide +kernel
theorem lx_63 (x : Int32) : 0 ≤ (x &&& 63).toInt := (nh_andR x (by decide)).1
