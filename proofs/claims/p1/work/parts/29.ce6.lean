/-! constructors by program -/
def ceCt : List nhMth := [(⟨"NightHouses", "<init>", "()V"⟩, prog_1_method_1_code, 2, none, false, 0),
  (⟨"NightHouses$Land", "<init>", "()V"⟩, prog_5_method_1_code, 1, none, false, 0),
  (⟨"NightHouses$Formula", "<init>", "()V"⟩, prog_3_method_1_code, 1, none, false, 0),
  (⟨"NightHouses$Reader", "<init>", "()V"⟩, prog_8_method_1_code, 1, none, false, 0),
  (⟨"NightHouses$Tokens", "<init>", "()V"⟩, prog_11_method_1_code, 1, none, false, 0),
  (⟨"NightHouses$Night", "<init>", "()V"⟩, prog_6_method_1_code, 1, none, false, 0),
  (⟨"NightHouses$History", "<init>", "()V"⟩, prog_4_method_1_code, 2, none, false, 0),
  (⟨"NightHouses$Walks", "<init>", "()V"⟩, prog_12_method_1_code, 1, none, false, 0),
  (⟨"NightHouses$Planner", "<init>", "()V"⟩, prog_7_method_1_code, 2, none, false, 0),
  (⟨"NightHouses$Fencer", "<init>", "()V"⟩, prog_2_method_1_code, 1, none, false, 0),
  (⟨"NightHouses$Sightings", "<init>", "()V"⟩, prog_9_method_1_code, 1, none, false, 0),
  (⟨"NightHousesModel", "<init>", "()V"⟩, prog_14_method_1_code, 1, none, false, 0)]
set_option maxRecDepth 100000 in
theorem ceCt_c : ceCt.map (fun y => Cond.code y.1 y.2.1 y.2.2.1 y.2.2.2.1) = [146, 154, 160, 265, 271, 346, 397, 421, 441, 472, 510, 1380].filterMap (fun i => lw_tbl[i]?) := rfl
set_option maxRecDepth 100000 in
theorem ceCt_i : ceCt.map (fun y => Cond.initialized y.1.cls) = [118, 119, 120, 121, 122, 123, 124, 125, 126, 127, 128, 131].filterMap (fun i => lw_tbl[i]?) := rfl
set_option maxRecDepth 100000 in
theorem ceCt_s : ceCt.map (fun y => Cond.instanceMethod y.1) = [145, 153, 159, 264, 270, 345, 396, 420, 440, 471, 509, 1379].filterMap (fun i => lw_tbl[i]?) := rfl
set_option maxRecDepth 100000 in
theorem ceCt_d : ceCt.all (fun y => decide (y.1.name = "<init>" ∧ y.2.2.2.1 = none ∧ y.1.cls ≠ "java/lang/invoke/MethodHandle" ∧ y.1.cls ≠ "java/lang/invoke/VarHandle" ∧ (parseMethodDescriptor y.1.desc).map (fun d => d.parameters.length) = some y.2.2.2.2.2) && plainName y.1.cls) = true := by decide +kernel
def ceNw : List (String × Nat × MethodName) := [("NightHouses", 19, ⟨"NightHouses$Land", "<init>", "()V"⟩), ("NightHouses$Land", 17, ⟨"NightHouses$Formula", "<init>", "()V"⟩), ("NightHouses", 29, ⟨"NightHouses$Reader", "<init>", "()V"⟩), ("NightHouses$Reader", 11, ⟨"NightHouses$Tokens", "<init>", "()V"⟩), ("NightHouses", 36, ⟨"NightHouses$Night", "<init>", "()V"⟩), ("NightHouses$History", 25, ⟨"NightHouses$Night", "<init>", "()V"⟩), ("NightHouses", 60, ⟨"NightHouses$Walks", "<init>", "()V"⟩), ("NightHouses$Planner", 24, ⟨"NightHouses$Night", "<init>", "()V"⟩), ("NightHouses", 74, ⟨"NightHouses$Fencer", "<init>", "()V"⟩), ("NightHouses$Fencer", 11, ⟨"NightHouses$Night", "<init>", "()V"⟩), ("NightHouses", 81, ⟨"NightHouses$Sightings", "<init>", "()V"⟩), ("NightHouses$Sightings", 36, ⟨"NightHouses$Night", "<init>", "()V"⟩)]
def ceCi : List (List (Nat × Nat × Nat × Nat)) := [[(11, 5, 1, 9)], [], [(25, 5, 1, 5)], [(17, 2, 1, 1)], [], [(24, 5, 1, 7)], [(11, 4, 1, 3)], [(36, 5, 1, 11)], [], [], [], [(19, 1, 1, 0), (29, 3, 1, 2), (36, 5, 1, 4), (60, 7, 1, 6), (74, 9, 1, 8), (81, 10, 1, 10), (46, 6, 0, 395), (67, 8, 0, 439)], [], [], [], [], [], [], [], [], [(9, 0, 0, 144), (12, 11, 0, 1378)]]
def ce_ciB (o : Nat) (q : Nat × Nat × Nat × Nat) : Bool := match nhOw[o]?, ceCt[q.2.1]? with
  | some C, some y => if q.2.2.1 = 0 then nh_wd q.2.2.2 (Cond.methodLink C q.1 y.1) else decide (ceNw[q.2.2.2]? = some (C, q.1, y.1))
  | _, _ => false
set_option maxRecDepth 100000 in
theorem ceCi_all : (List.range ceCi.length).all (fun o => (ceCi.getD o []).all (ce_ciB o)) = true := by decide +kernel
/-- what the tables say beyond the words: links to nest mates' constructors, arrays of nights -/
def ceNs (U : State) : Prop := (∀ q ∈ ceNw, va_Nw (.methodLinkNest q.1 q.2.1 q.2.2 "NightHouses") U) ∧ va_AO "NightHouses$Night" U
theorem ceNs.warm {s U : State} (hW : s.WarmedH U.vm) (h : ceNs s) : ceNs U := ⟨fun q hq => va_Nw.warmM hW (h.1 q hq), h.2.moved hW.alike⟩
theorem ceNs.same {u U : State} (hv : u.vm = U.vm) (h : ceNs u) : ceNs U := ⟨fun q hq => va_Nw.same rfl hv (h.1 q hq), h.2.moved (by rw [hv]; exact Vm.Alike.refl _)⟩
def ce_ctP (y : nhMth) : Prop := Cond.code y.1 y.2.1 y.2.2.1 y.2.2.2.1 ∈ nhTb ∧ Cond.initialized y.1.cls ∈ nhTb ∧ Cond.instanceMethod y.1 ∈ nhTb ∧ (y.1.name = "<init>" ∧ y.2.2.2.1 = none ∧ y.1.cls ≠ "java/lang/invoke/MethodHandle" ∧ y.1.cls ≠ "java/lang/invoke/VarHandle" ∧ (parseMethodDescriptor y.1.desc).map (fun d => d.parameters.length) = some y.2.2.2.2.2) ∧ plainName y.1.cls = true
theorem ce_ct_ok {k : Nat} {y : nhMth} (h : ceCt[k]? = some y) : ce_ctP y := by
  have hy := List.mem_of_getElem? h
  have h6 := List.all_eq_true.mp ceCt_d y hy
  simp only [Bool.and_eq_true, decide_eq_true_eq] at h6
  exact ⟨nhCd0 ceCt_c (fun _ => rfl) hy, nhCd0 ceCt_i (fun _ => rfl) hy, nhCd0 ceCt_s (fun _ => rfl) hy, h6.1, h6.2⟩
def ce_m (mn : Nat) : Option nhMth := if mn < 1000 then nhMt[mn]? else ceCt[mn - 1000]?
/-- contracts of known values -/
def cePc (D : nhD) (B : Nat) (H0 : Heap) (as : List ceV) (hp : List ceC) : Array Value → State → Prop := fun a U => a = (as.map (ce_c B)).toArray ∧ ceH D B H0 hp U.heap ∧ nhK D U ∧ ceNs U
def ceQc (D : nhD) (B : Nat) (H0 : Heap) (r : Option ceV) (hp : List ceC) : Array Value → State → Outcome → State → Prop := fun _ _ o t => o = .returned (r.map (ce_c B)) ∧ ceH D B H0 hp t.heap
def ceRm (d mc ms : Nat) : Room := { frames := d, cells := mc, slots := ms, locals := 60 * d }
def ceMet (y : nhMth) (d : Nat) (as : List ceV) (hp : List ceC) (r : Option ceV) (hp' : List ceC) (mc ms : Nat) : Prop := ∀ (l : Launch) (D : nhD) (B : Nat) (H0 : Heap), Met l y.1 (nhWs y) (ceRm d mc ms) (cePc D B H0 as hp) (ceQc D B H0 r hp') mc ms (fun a => B ≤ a)
theorem cePc_blind (D : nhD) (B : Nat) (H0 : Heap) (as : List ceV) (hp : List ceC) : FrameBlind (cePc D B H0 as hp) := fun a U g mk q => by
  obtain ⟨h1, h2, h3, h4⟩ := q
  exact ⟨h1, h2, nhK.moved (u := U) (U := U.calling g mk a) (Vm.Alike.refl U.vm) h3, ceNs.same (u := U) (U := U.calling g mk a) rfl h4⟩
def ce_sum (st : List ceV) : Nat := (st.map (fun v => if ce_ty v = 1 then 2 else 1)).sum
theorem ce_sum_ok (B : Nat) (st : List ceV) : ((st.map (ce_c B)).map fun v => v.category).sum = ce_sum st := by
  unfold ce_sum
  rw [List.map_map]
  congr 1
  apply List.map_congr_left
  intro v _
  exact ce_cat B v
/-- natives, Math, Object's constructor -/
def ce_cpy (els0 els1 : List ceV) (sp dp n : Nat) : List ceV := (List.range els1.length).map (fun k => if dp ≤ k ∧ k < dp + n then els0.getD (sp + (k - dp)) (3, 0) else els1.getD k (3, 0))
def ce_nat (own pc : Nat) (i : Instr) (len : Nat) (lo : List (Nat × ceV)) (st : List ceV) (hp : List ceC) : Option ceS := match i with
  | .invokespecial idx => match (ceOi.getD own []).find? (fun q => q.1 == idx) with
    | some _ => match st with
      | (2, _) :: r => if len = 3 ∧ ce_sum r ≤ 8 then some (pc + 3, lo, r, hp) else none
      | _ => none
    | none => none
  | .invokestatic idx => match (ceSp.getD own []).find? (fun q => q.1 == idx) with
    | some q => if q.2.1 = 0 then (match st with
        | (0, n) :: (0, dp) :: (2, a) :: (0, sp) :: (2, a0) :: r => match hp[a0.toNat]?, hp[a.toNat]? with
          | some k0, some k1 => if len = 3 ∧ ce_sum r ≤ 8 ∧ k0.1 = 1 ∧ k0.2.1 = 0 ∧ k1.1 = 1 ∧ k1.2.1 = 0 ∧ k0.2.2.all (fun v => v.1 == 0) = true ∧ k1.2.2.all (fun v => v.1 == 0) = true ∧ 0 ≤ (Int32.ofInt n).toInt ∧ 0 ≤ (Int32.ofInt dp).toInt ∧ 0 ≤ (Int32.ofInt sp).toInt ∧ (Int32.ofInt sp).toInt.toNat + (Int32.ofInt n).toInt.toNat ≤ k0.2.2.length ∧ (Int32.ofInt dp).toInt.toNat + (Int32.ofInt n).toInt.toNat ≤ k1.2.2.length then some (pc + 3, lo, r, hp.set a.toNat (1, 0, ce_cpy k0.2.2 k1.2.2 (Int32.ofInt sp).toInt.toNat (Int32.ofInt dp).toInt.toNat (Int32.ofInt n).toInt.toNat)) else none
          | _, _ => none
        | _ => none)
      else if q.2.1 = 1 then (match st with
        | (0, y) :: (0, x) :: r => if len = 3 ∧ ce_sum r ≤ 8 then some (pc + 3, lo, (0, (if Int32.ofInt y < Int32.ofInt x then Int32.ofInt y else Int32.ofInt x).toInt) :: r, hp) else none
        | _ => none)
      else if q.2.1 = 2 then (match st with
        | (0, y) :: (0, x) :: r => if len = 3 ∧ ce_sum r ≤ 8 then some (pc + 3, lo, (0, (if Int32.ofInt x < Int32.ofInt y then Int32.ofInt y else Int32.ofInt x).toInt) :: r, hp) else none
        | _ => none)
      else (match st with
        | (0, x) :: r => if len = 3 ∧ ce_sum r ≤ 8 then some (pc + 3, lo, (0, (if 0 ≤ Int32.ofInt x then Int32.ofInt x else 0 - Int32.ofInt x).toInt) :: r, hp) else none
        | _ => none)
    | none => none
  | _ => none
section CE6
variable {p : Program} {l : Launch} {e : Env} {R : Room} {s : State} {m : MethodId} {args : Array Value} {below : List Frame} {meth : Method} {c : Code} {Q : State → Prop} {cc : ByteArray} {pc own : Nat} {D : nhD} {B : Nat} {H0 : Heap} {nL cn cz : Nat} {lo : List (Nat × ceV)} {st : List ceV} {hp : List ceC}
theorem ce_clN {x : Int} (h : 0 ≤ (Int32.ofInt x).toInt) : (Int32.ofInt x).toNatClampNeg = (Int32.ofInt x).toInt.toNat ∧ ¬ Int32.ofInt x < 0 := by
  obtain ⟨j, hj, ej, ejj⟩ := nh_nI h
  refine ⟨by rw [ejj, ej, nI_clamp hj]; omega, fun q => ?_⟩
  have := Int32.lt_iff_toInt_lt.mp q
  rw [show (0 : Int32).toInt = 0 from rfl] at this
  omega
theorem ce_nat_ok (hF : nhFx p c s m args cc nL own D) (hf : 1 ≤ R.frames) (hlo : 60 ≤ R.locals) (hc1 : cn ≤ R.cells) (hc2 : cz ≤ R.slots) {i : Instr} {len : Nat} (hd : decode cc pc = .ok (i, len)) {S' : ceS} (h : ce_nat own pc i len lo st hp = some S')
    (k : ceGo p l e R s m args below meth c Q D B H0 nL cn cz S') : ceGo p l e R s m args below meth c Q D B H0 nL cn cz (pc, lo, st, hp) := by
  intro H locs ls hR
  obtain ⟨hx, hb, hml, ⟨C, hC, hown⟩, hts, hK⟩ := hF
  unfold ce_nat at h
  split at h
  · rename_i idx
    split at h
    · rename_i q hq
      split at h
      · rename_i o r
        split at h
        · rename_i hc
          cases h
          obtain ⟨rfl, hsum⟩ := hc
          have h1 : q.1 = idx := by simpa using List.find?_some hq
          have h2 := nh_rows ceOi_all (List.mem_of_find?_eq_some hq)
          unfold ce_oiB at h2
          rw [hC] at h2
          have h3 := nh_wd_ok h2
          rw [h1] at h3
          have hS8 : ((r.map (ce_c B)).map fun v => v.category).sum ≤ 8 := by rw [ce_sum_ok]; exact hsum
          have hr8 := lv_room (m := m) (pc := pc) (ls := ls) (rest := ((2, o) :: r).map (ce_c B)) hS8
          exact W.objInit hx hb hown (hts _ h3) (hts _ ceOb1) (hts _ ceOb2) rfl (by rw [hml]; exact hR.1) rfl hd hf (Nat.le_trans (Nat.add_le_add_right hr8 12) (by omega)) (k H locs ls hR)
        · cases h
      · cases h
    · cases h
  · rename_i idx
    split at h
    · rename_i q hq
      have h1 : q.1 = idx := by simpa using List.find?_some hq
      have h2 := nh_rows ceSp_all (List.mem_of_find?_eq_some hq)
      unfold ce_spB at h2
      rw [hC] at h2
      simp only [Bool.and_eq_true, decide_eq_true_eq] at h2
      have h3 := nh_wd_ok h2.1
      rw [h1] at h3
      split at h
      · rename_i e0
        rw [e0] at h3
        split at h
        · rename_i n dp a sp a0 r
          split at h
          · rename_i k0 k1 hk0 hk1
            split at h
            · rename_i hc
              cases h
              obtain ⟨rfl, c0, c1, c2, c3, c4, c5, c6, c7, c8, c9, c10, c11⟩ := hc
              have hcell0 := hR.2.2.2.1.2.2 _ _ hk0
              have hcell1 := hR.2.2.2.1.2.2 _ _ hk1
              obtain ⟨t0, ti0, els0⟩ := k0
              obtain ⟨t1, ti1, els1⟩ := k1
              dsimp only at c1 c2 c3 c4 c5 c6 c10 c11
              subst c1 c2 c3 c4
              have toI : ∀ {els : List ceV}, els.all (fun v => v.1 == 0) = true → ∀ j, j < els.length → ce_c B (els.getD j (3, 0)) = .int (Int32.ofInt (els.getD j (3, 0)).2) := by
                intro els hall j hj
                have hm : els.getD j (3, 0) ∈ els := by
                  rw [List.getD_eq_getElem?_getD, List.getElem?_eq_getElem hj]
                  exact List.getElem_mem hj
                have := List.all_eq_true.mp hall _ hm
                generalize els.getD j (3, 0) = v at this ⊢
                obtain ⟨t, x⟩ := v
                have : t = 0 := by simpa using this
                subst this
                rfl
              have hA0 := ce_cellA hcell0
              have hA1 := ce_cellA hcell1
              rw [arrV_cong _ (toI c5)] at hA0
              rw [arrV_cong _ (toI c6)] at hA1
              have hnf : nativeFrameWords "java/lang/System" "arraycopy" 5 + 11 ≤ 52 := by decide
              obtain ⟨l1, n1⟩ := ce_clN c7
              obtain ⟨l2, n2⟩ := ce_clN c8
              obtain ⟨l3, n3⟩ := ce_clN c9
              refine nh_copyW hx hb (by rw [hml]; exact hR.1.symm) hown (hts _ h3) (hts _ ceSp_n) (hts _ ceSp_s0) (hts _ ceSp_i0) ((hK.2 0 .int rfl).1) hA0 hA1 n3 n2 n1 (by rw [l1, l3]; exact c10) (by rw [l1, l2]; exact c11) hf (by rw [ce_sum_ok]; omega) hd (fun H1 L e1 e2 e3 e4 => ?_)
              refine k H1 _ ls ⟨hR.1, hR.2.1, hR.2.2.1, hR.2.2.2.1.put hk1 ?_ e2 e3, fun w hw => ?_⟩
              · show H1[B + a.toNat]? = some (arrV _ _ _)
                rw [e1]
                unfold ce_cpy
                rw [List.length_map, List.length_range]
                congr 1
                refine arrV_cong _ (fun j hj => ?_)
                rw [List.getD_eq_getElem?_getD, List.getElem?_map, List.getElem?_range hj]
                simp only [Option.map_some, Option.getD_some, va_cpy, l1, l2, l3]
                split
                · rw [toI c5 _ (by omega)]
                · rw [toI c6 _ hj]
              · rcases List.mem_append.mp hw with hw | hw
                · exact hR.2.2.2.2 w hw
                · rw [e4 w hw]; omega
            · cases h
          · cases h
        · cases h
      · split at h
        · rename_i e0
          rw [e0] at h3
          split at h
          · rename_i y x r
            split at h
            · rename_i hc
              cases h
              obtain ⟨rfl, c0⟩ := hc
              have k1 := k H locs ls hR
              dsimp only at k1
              rw [List.map_cons, ce_i] at k1
              exact va_mmin hx hb (by rw [hml]; exact hR.1.symm) hown (hts _ h3) (hts _ ceSp_s1) (hts _ ceSp_i1) (hts _ ceSp_c1) hf (by rw [ce_sum_ok]; omega) hc1 hc2 hd k1
            · cases h
          · cases h
        · split at h
          · rename_i e0
            rw [e0] at h3
            split at h
            · rename_i y x r
              split at h
              · rename_i hc
                cases h
                obtain ⟨rfl, c0⟩ := hc
                have k1 := k H locs ls hR
                dsimp only at k1
                rw [List.map_cons, ce_i] at k1
                exact va_mmax hx hb (by rw [hml]; exact hR.1.symm) hown (hts _ h3) (hts _ ceSp_s2) (hts _ ceSp_i1) (hts _ ceSp_c2) hf (by rw [ce_sum_ok]; omega) hc1 hc2 hd k1
              · cases h
            · cases h
          · rename_i d0 d1 d2
            have e0 : q.2.1 = 3 := by omega
            rw [e0] at h3
            split at h
            · rename_i x r
              split at h
              · rename_i hc
                cases h
                obtain ⟨rfl, c0⟩ := hc
                have k1 := k H locs ls hR
                dsimp only at k1
                rw [List.map_cons, ce_i] at k1
                exact va_mabs hx hb (by rw [hml]; exact hR.1.symm) hown (hts _ h3) (hts _ ceSp_s3) (hts _ ceSp_i1) (hts _ ceSp_c3) hf (by rw [ce_sum_ok]; omega) hc1 hc2 hd k1
              · cases h
            · cases h
    · cases h
  · cases h
end CE6
