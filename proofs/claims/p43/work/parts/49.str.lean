/-! the JDK's String methods that the class reaches, walked on its two constants: printed by h_str.py -/
def nsS (K V : Nat → Nat) (A : Nat → Prop) (U : State) : Prop := vk_S 2 nkLen nkByt K V A U U.heap ∧ va_Z "java/lang/String" "COMPACT_STRINGS" "Z" (.int 1) A U U.heap ∧ va_Zq "jdk/internal/util/Preconditions" "SIOOBE_FORMATTER" "Ljava/util/function/BiFunction;" A U U.heap
theorem nsS.same {K V : Nat → Nat} {A : Nat → Prop} {u U : State} (hv : U.vm = u.vm) (hh : U.heap = u.heap) (h : nsS K V A u) : nsS K V A U := by
  have ha : u.vm.Alike U.vm := by rw [hv]; exact Vm.Alike.refl _
  unfold nsS
  rw [hh]
  exact ⟨h.1.moved ha, h.2.1.moved ha, h.2.2.moved ha⟩
theorem nsS.to {K V : Nat → Nat} {A : Nat → Prop} {s U : State} (hW : s.WarmedH U.vm) (hk : ∀ a : Nat, a < s.heap.size → ¬ A a → U.heap[a]? = s.heap[a]?) (h : nsS K V A s) : nsS K V A U := ⟨(h.1.kept hk).moved hW.alike, (h.2.1.kept hk).moved hW.alike, (h.2.2.kept hk).moved hW.alike⟩
def nsPc (K V : Nat → Nat) (A : Nat → Prop) (vals : List Value) : Array Value → State → Prop := fun b U => b = vals.toArray ∧ nsS K V A U
theorem nsPc_blind {K V : Nat → Nat} {A : Nat → Prop} {vals : List Value} : FrameBlind (nsPc K V A vals) := fun b U g mk q => ⟨q.1, nsS.same (u := U) (U := U.calling g mk b) rfl rfl q.2⟩
def nsQc (post : Option Value → Prop) : Array Value → State → Outcome → State → Prop := fun _ st o t => (∃ v, o = .returned v ∧ post v) ∧ t.heap = st.heap
def nsM (l : Launch) (y : MethodName) (cc : ByteArray) (maxL : Nat) (ret : Option FieldType) (fr lo : Nat) (K V : Nat → Nat) (A : Nat → Prop) (vals : List Value) (post : Option Value → Prop) : Prop := Met l y (Cond.code y cc maxL ret :: nhTb) (nkRm fr lo) (nsPc K V A vals) (nsQc post) 0 0 (fun _ => False)
def nsF (p : Program) (s : State) (m : MethodId) (args : Array Value) (meth : Method) (c : Code) (cc : ByteArray) (nL : Nat) (own : String) (ret : Option FieldType) : Prop := p.tables.exec = Jvm.exec ∧ c.code = cc ∧ c.maxLocals = nL ∧ s.vm.findClass own = some m.cls ∧ (∀ w ∈ nhTb, w.before args s = true) ∧ meth.sig.returnType = ret ∧ meth.locks = false
theorem ns_met {l : Launch} {y : MethodName} {cc : ByteArray} {maxL : Nat} {ret : Option FieldType} {fr lo : Nat} {K V : Nat → Nat} {A : Nat → Prop} {vals : List Value} {post : Option Value → Prop} (hy : plainFor y = true) (hlen : (lg_sl vals).length ≤ maxL)
    (body : ∀ {p : Program} {e : Env} {s : State} {m : MethodId} {below : List Frame} {meth : Method} {c : Code} {ls : Array Slot}, nsF p s m vals.toArray meth c cc maxL y.cls ret → nsS K V A s → lv_has ls maxL (lv_args 0 vals) → W p l e (nkRm fr lo) s m vals.toArray below meth c s.heap [] 0 0 (MQ below (nsQc post) vals.toArray s 0 0 (fun _ => False)) (F0 m 0 ls [])) : nsM l y cc maxL ret fr lo K V A vals post := by
  refine nh_ofWF (cc := cc) (maxL := maxL) (ret := ret) hy rfl ?_
  intro p e s m args below meth c s₁ B hml hv
  obtain ⟨rfl, hS⟩ := hv
  have hts := atoms_spec (ws := Cond.code y cc maxL ret :: nhTb) B.pre
  have hl := lv_entry vals (n := maxL) hlen
  show W p l e (nkRm fr lo) s m vals.toArray below meth c s.heap [] 0 0 _ (entryFrame m vals.toArray maxL)
  rw [lg_entry_eq]
  generalize (lg_sl vals ++ List.replicate (maxL - (lg_sl vals).length) Slot.unset).toArray = ls at hl ⊢
  exact body ⟨B.exec, B.bytes, hml, findClass_of_methodNamed B.named, fun w hw => hts w (List.mem_cons_of_mem _ hw), B.returns, B.notSynchronized⟩ hS hl
theorem ns_good {y : MethodName} {b : ByteArray} {M : Nat} {r : Option FieldType} (w1 : Cond.code y b M r ∈ nhTb) : GoodIn nhTb (Cond.code y b M r :: nhTb) := fun w hw => by
  rcases List.mem_cons.mp hw with rfl | hw
  · exact nhGoodIn0 _ w1
  · exact nhGoodIn0 _ hw
theorem ns_nil {L : List Loc} (h : ∀ q ∈ L, q ∈ ([] : List Loc)) : L = [] := by
  cases L with
  | nil => rfl
  | cons a r => exact absurd (h a List.mem_cons_self) (by simp)
theorem ns_S0 (A : Nat → Prop) (H : Heap) : va_S A H H [] := ⟨Nat.le_refl _, fun _ _ _ => rfl, fun q hq => by cases hq⟩
section NS0
variable {p : Program} {l : Launch} {e : Env} {R : Room} {s : State} {m : MethodId} {args : Array Value} {below : List Frame} {meth : Method} {c : Code} {Q : State → Prop} {cc : ByteArray} {nL pc : Nat} {own : String}
variable {y : MethodName} {bytes : ByteArray} {maxL : Nat} {ret : Option FieldType} {fr lo n idx : Nat} {K V : Nat → Nat} {A : Nat → Prop} {post : Option Value → Prop} {H : Heap} {locs : List Loc} {ls : Array Slot}
theorem ns_callS (hx : p.tables.exec = Jvm.exec) (hb : c.code = cc) (hml : c.maxLocals = nL) (hown : s.vm.findClass own = some m.cls) (hts : ∀ w ∈ nhTb, w.before args s = true) (w1 : Cond.code y bytes maxL ret ∈ nhTb) (w2 : Cond.initialized y.cls ∈ nhTb) (w3 : Cond.methodLink own idx y ∈ nhTb) (w4 : Cond.static y ∈ nhTb) (hd : y.cls ≠ "java/lang/invoke/MethodHandle" ∧ y.cls ≠ "java/lang/invoke/VarHandle" ∧ (parseMethodDescriptor y.desc).map (fun d => d.parameters.length) = some n) (hR : fr + 1 ≤ R.frames ∧ 8 + (maxL + 11) + lo ≤ R.locals)
    {vals rest : List Value} (hM : nsM l y bytes maxL ret fr lo K V A vals post) (hlen : vals.length = n) (hPre : ∀ U : State, U.heap = H → s.WarmedH U.vm → nsS K V A U) (hls : ls.size = nL) (hcat : (rest.map fun v => v.category).sum ≤ 8) (hdg : decode cc pc = .ok (.invokestatic idx, 3))
    (k : ∀ (v : Option Value) (locs1 : List Loc), post v → (∀ q ∈ locs1, q ∈ locs) → W p l e R s m args below meth c H locs1 0 0 Q (F0 m (pc + 3) ls (v.toList ++ rest))) : W p l e R s m args below meth c H locs 0 0 Q (F0 m pc ls (vals.reverse ++ rest)) := by
  have hB : CallB R s args own idx y bytes maxL ret (Cond.code y bytes maxL ret :: nhTb) (nkRm fr lo) 0 0 n := callB_of n hts (ns_good w1) rfl rfl rfl (hts _ w2) (hts _ w3) hd hR
  have hfin : va_Run p l e R s m args below meth c H locs 0 0 0 0 (F0 m pc ls (vals.reverse ++ rest)) rest (nsQc post vals.toArray) (fun _ => False) := va_runS (As := vals) (rest := rest) ⟨hx, hb, hml, hown, hts⟩ hM ⟨hB, hts _ w4⟩ ⟨nsPc_blind, fun U hU hW => ⟨rfl, hPre U hU hW⟩⟩ rfl hlen hls rfl (lv_room hcat) hdg ⟨Nat.zero_le _, Nat.zero_le _⟩
  intro T hT X
  obtain ⟨v, st₀, t, T', L, h0, X', hL, e1, e2, hq, st⟩ := hfin T hT X
  obtain ⟨⟨v', hv, hpost⟩, hheap⟩ := hq
  cases hv
  obtain ⟨t2, a1, b1⟩ := k v (locs ++ L) hpost (fun q hq => by
    rcases List.mem_append.mp hq with h | h
    · exact h
    · exact (hL q h).elim) T' (by rw [e1, hheap, h0]) X'
  exact ⟨t2, st t2 a1, b1⟩
theorem ns_callV (hx : p.tables.exec = Jvm.exec) (hb : c.code = cc) (hml : c.maxLocals = nL) (hown : s.vm.findClass own = some m.cls) (hts : ∀ w ∈ nhTb, w.before args s = true) (w1 : Cond.code y bytes maxL ret ∈ nhTb) (w2 : Cond.initialized y.cls ∈ nhTb) (w3 : Cond.methodLink own idx y ∈ nhTb) (w4 : Cond.instanceMethod y ∈ nhTb) (w5 : Cond.selects y.cls y y ∈ nhTb) (hd : y.cls ≠ "java/lang/invoke/MethodHandle" ∧ y.cls ≠ "java/lang/invoke/VarHandle" ∧ (parseMethodDescriptor y.desc).map (fun d => d.parameters.length) = some n) (hR : fr + 1 ≤ R.frames ∧ 8 + (maxL + 11) + lo ≤ R.locals)
    {b : Nat} {As rest : List Value} (hM : nsM l y bytes maxL ret fr lo K V A (.ref b :: As) post) (hlen : As.length = n) (hrecv : ∃ cell : Cell, H[b]? = some cell ∧ cell.vm.isStatics = false ∧ s.vm.findClass y.cls = some cell.cls) (hPre : ∀ U : State, U.heap = H → s.WarmedH U.vm → nsS K V A U) (hls : ls.size = nL) (hcat : (rest.map fun v => v.category).sum ≤ 8) (hdg : decode cc pc = .ok (.invokevirtual idx, 3))
    (k : ∀ (v : Option Value) (locs1 : List Loc), post v → (∀ q ∈ locs1, q ∈ locs) → W p l e R s m args below meth c H locs1 0 0 Q (F0 m (pc + 3) ls (v.toList ++ rest))) : W p l e R s m args below meth c H locs 0 0 Q (F0 m pc ls (As.reverse ++ .ref b :: rest)) := by
  have hB : CallB R s args own idx y bytes maxL ret (Cond.code y bytes maxL ret :: nhTb) (nkRm fr lo) 0 0 n := callB_of n hts (ns_good w1) rfl rfl rfl (hts _ w2) (hts _ w3) hd hR
  have hfin : va_Run p l e R s m args below meth c H locs 0 0 0 0 (F0 m pc ls (As.reverse ++ .ref b :: rest)) rest (nsQc post (Value.ref b :: As).toArray) (fun _ => False) := va_runV (b := b) (As := As) (rest := rest) ⟨hx, hb, hml, hown, hts⟩ hM ⟨hB, hts _ w4, hts _ w5⟩ ⟨nsPc_blind, hrecv, fun U hU hW => ⟨rfl, hPre U hU hW⟩⟩ rfl hlen hls rfl (lv_room hcat) hdg ⟨Nat.zero_le _, Nat.zero_le _⟩
  intro T hT X
  obtain ⟨v, st₀, t, T', L, h0, X', hL, e1, e2, hq, st⟩ := hfin T hT X
  obtain ⟨⟨v', hv, hpost⟩, hheap⟩ := hq
  cases hv
  obtain ⟨t2, a1, b1⟩ := k v (locs ++ L) hpost (fun q hq => by
    rcases List.mem_append.mp hq with h | h
    · exact h
    · exact (hL q h).elim) T' (by rw [e1, hheap, h0]) X'
  exact ⟨t2, st t2 a1, b1⟩
end NS0

abbrev ns_y1 : MethodName := ⟨"jdk/internal/util/Preconditions", "checkIndex", "(IILjava/util/function/BiFunction;)I"⟩
theorem ns_p1 : plainFor ns_y1 = true := by decide +kernel
set_option maxRecDepth 100000 in
theorem ns_c1 : Cond.code ns_y1 prog_25_method_11_code 3 (some .int) ∈ nhTb := nhTb_mem (List.mem_of_getElem? (i := 710) rfl) rfl
theorem ns_s1 : Cond.static ns_y1 ∈ nhTb := nh_wd_ok (i := 709) (by decide +kernel)
theorem ns_d1 : ns_y1.cls ≠ "java/lang/invoke/MethodHandle" ∧ ns_y1.cls ≠ "java/lang/invoke/VarHandle" ∧ (parseMethodDescriptor ns_y1.desc).map (fun d => d.parameters.length) = some 3 := by decide +kernel
abbrev ns_y2 : MethodName := ⟨"java/lang/String", "checkIndex", "(II)V"⟩
theorem ns_p2 : plainFor ns_y2 = true := by decide +kernel
set_option maxRecDepth 100000 in
theorem ns_c2 : Cond.code ns_y2 prog_20_method_155_code 2 none ∈ nhTb := nhTb_mem (List.mem_of_getElem? (i := 705) rfl) rfl
theorem ns_s2 : Cond.static ns_y2 ∈ nhTb := nh_wd_ok (i := 704) (by decide +kernel)
theorem ns_d2 : ns_y2.cls ≠ "java/lang/invoke/MethodHandle" ∧ ns_y2.cls ≠ "java/lang/invoke/VarHandle" ∧ (parseMethodDescriptor ns_y2.desc).map (fun d => d.parameters.length) = some 2 := by decide +kernel
abbrev ns_y3 : MethodName := ⟨"java/lang/StringLatin1", "charAt", "([BI)C"⟩
theorem ns_p3 : plainFor ns_y3 = true := by decide +kernel
set_option maxRecDepth 100000 in
theorem ns_c3 : Cond.code ns_y3 prog_21_method_2_code 2 (some .char) ∈ nhTb := nhTb_mem (List.mem_of_getElem? (i := 702) rfl) rfl
theorem ns_s3 : Cond.static ns_y3 ∈ nhTb := nh_wd_ok (i := 701) (by decide +kernel)
theorem ns_d3 : ns_y3.cls ≠ "java/lang/invoke/MethodHandle" ∧ ns_y3.cls ≠ "java/lang/invoke/VarHandle" ∧ (parseMethodDescriptor ns_y3.desc).map (fun d => d.parameters.length) = some 2 := by decide +kernel
abbrev ns_y4 : MethodName := ⟨"java/lang/String", "isLatin1", "()Z"⟩
theorem ns_p4 : plainFor ns_y4 = true := by decide +kernel
set_option maxRecDepth 100000 in
theorem ns_c4 : Cond.code ns_y4 prog_20_method_154_code 1 (some .boolean) ∈ nhTb := nhTb_mem (List.mem_of_getElem? (i := 699) rfl) rfl
theorem ns_i4 : Cond.instanceMethod ns_y4 ∈ nhTb := nh_wd_ok (i := 697) (by decide +kernel)
theorem ns_v4 : Cond.selects "java/lang/String" ns_y4 ns_y4 ∈ nhTb := nh_wd_ok (i := 698) (by decide +kernel)
theorem ns_d4 : ns_y4.cls ≠ "java/lang/invoke/MethodHandle" ∧ ns_y4.cls ≠ "java/lang/invoke/VarHandle" ∧ (parseMethodDescriptor ns_y4.desc).map (fun d => d.parameters.length) = some 0 := by decide +kernel
abbrev ns_y5 : MethodName := ⟨"java/lang/String", "charAt", "(I)C"⟩
theorem ns_p5 : plainFor ns_y5 = true := by decide +kernel
set_option maxRecDepth 100000 in
theorem ns_c5 : Cond.code ns_y5 prog_20_method_56_code 2 (some .char) ∈ nhTb := nhTb_mem (List.mem_of_getElem? (i := 695) rfl) rfl
theorem ns_i5 : Cond.instanceMethod ns_y5 ∈ nhTb := nh_wd_ok (i := 693) (by decide +kernel)
theorem ns_v5 : Cond.selects "java/lang/String" ns_y5 ns_y5 ∈ nhTb := nh_wd_ok (i := 694) (by decide +kernel)
theorem ns_d5 : ns_y5.cls ≠ "java/lang/invoke/MethodHandle" ∧ ns_y5.cls ≠ "java/lang/invoke/VarHandle" ∧ (parseMethodDescriptor ns_y5.desc).map (fun d => d.parameters.length) = some 1 := by decide +kernel
abbrev ns_y6 : MethodName := ⟨"java/lang/String", "coder", "()B"⟩
theorem ns_p6 : plainFor ns_y6 = true := by decide +kernel
set_option maxRecDepth 100000 in
theorem ns_c6 : Cond.code ns_y6 prog_20_method_152_code 1 (some .byte) ∈ nhTb := nhTb_mem (List.mem_of_getElem? (i := 689) rfl) rfl
theorem ns_i6 : Cond.instanceMethod ns_y6 ∈ nhTb := nh_wd_ok (i := 687) (by decide +kernel)
theorem ns_v6 : Cond.selects "java/lang/String" ns_y6 ns_y6 ∈ nhTb := nh_wd_ok (i := 688) (by decide +kernel)
theorem ns_d6 : ns_y6.cls ≠ "java/lang/invoke/MethodHandle" ∧ ns_y6.cls ≠ "java/lang/invoke/VarHandle" ∧ (parseMethodDescriptor ns_y6.desc).map (fun d => d.parameters.length) = some 0 := by decide +kernel
abbrev ns_y7 : MethodName := ⟨"java/lang/String", "length", "()I"⟩
theorem ns_p7 : plainFor ns_y7 = true := by decide +kernel
set_option maxRecDepth 100000 in
theorem ns_c7 : Cond.code ns_y7 prog_20_method_54_code 1 (some .int) ∈ nhTb := nhTb_mem (List.mem_of_getElem? (i := 685) rfl) rfl
theorem ns_i7 : Cond.instanceMethod ns_y7 ∈ nhTb := nh_wd_ok (i := 683) (by decide +kernel)
theorem ns_v7 : Cond.selects "java/lang/String" ns_y7 ns_y7 ∈ nhTb := nh_wd_ok (i := 684) (by decide +kernel)
theorem ns_d7 : ns_y7.cls ≠ "java/lang/invoke/MethodHandle" ∧ ns_y7.cls ≠ "java/lang/invoke/VarHandle" ∧ (parseMethodDescriptor ns_y7.desc).map (fun d => d.parameters.length) = some 0 := by decide +kernel
abbrev ns_y8 : MethodName := ⟨"java/lang/StringLatin1", "canEncode", "(I)Z"⟩
theorem ns_p8 : plainFor ns_y8 = true := by decide +kernel
set_option maxRecDepth 100000 in
theorem ns_c8 : Cond.code ns_y8 prog_21_method_4_code 1 (some .boolean) ∈ nhTb := nhTb_mem (List.mem_of_getElem? (i := 752) rfl) rfl
theorem ns_s8 : Cond.static ns_y8 ∈ nhTb := nh_wd_ok (i := 751) (by decide +kernel)
theorem ns_d8 : ns_y8.cls ≠ "java/lang/invoke/MethodHandle" ∧ ns_y8.cls ≠ "java/lang/invoke/VarHandle" ∧ (parseMethodDescriptor ns_y8.desc).map (fun d => d.parameters.length) = some 1 := by decide +kernel
abbrev ns_y9 : MethodName := ⟨"java/lang/StringLatin1", "indexOfChar", "([BIII)I"⟩
theorem ns_p9 : plainFor ns_y9 = true := by decide +kernel
set_option maxRecDepth 100000 in
theorem ns_c9 : Cond.code ns_y9 prog_21_method_23_code 6 (some .int) ∈ nhTb := nhTb_mem (List.mem_of_getElem? (i := 759) rfl) rfl
theorem ns_s9 : Cond.static ns_y9 ∈ nhTb := nh_wd_ok (i := 758) (by decide +kernel)
theorem ns_d9 : ns_y9.cls ≠ "java/lang/invoke/MethodHandle" ∧ ns_y9.cls ≠ "java/lang/invoke/VarHandle" ∧ (parseMethodDescriptor ns_y9.desc).map (fun d => d.parameters.length) = some 4 := by decide +kernel
abbrev ns_y10 : MethodName := ⟨"java/lang/StringLatin1", "indexOf", "([BIII)I"⟩
theorem ns_p10 : plainFor ns_y10 = true := by decide +kernel
set_option maxRecDepth 100000 in
theorem ns_c10 : Cond.code ns_y10 prog_21_method_22_code 4 (some .int) ∈ nhTb := nhTb_mem (List.mem_of_getElem? (i := 749) rfl) rfl
theorem ns_s10 : Cond.static ns_y10 ∈ nhTb := nh_wd_ok (i := 748) (by decide +kernel)
theorem ns_d10 : ns_y10.cls ≠ "java/lang/invoke/MethodHandle" ∧ ns_y10.cls ≠ "java/lang/invoke/VarHandle" ∧ (parseMethodDescriptor ns_y10.desc).map (fun d => d.parameters.length) = some 4 := by decide +kernel
abbrev ns_y11 : MethodName := ⟨"java/lang/String", "indexOf", "(II)I"⟩
theorem ns_p11 : plainFor ns_y11 = true := by decide +kernel
set_option maxRecDepth 100000 in
theorem ns_c11 : Cond.code ns_y11 prog_20_method_80_code 3 (some .int) ∈ nhTb := nhTb_mem (List.mem_of_getElem? (i := 745) rfl) rfl
theorem ns_i11 : Cond.instanceMethod ns_y11 ∈ nhTb := nh_wd_ok (i := 743) (by decide +kernel)
theorem ns_v11 : Cond.selects "java/lang/String" ns_y11 ns_y11 ∈ nhTb := nh_wd_ok (i := 744) (by decide +kernel)
theorem ns_d11 : ns_y11.cls ≠ "java/lang/invoke/MethodHandle" ∧ ns_y11.cls ≠ "java/lang/invoke/VarHandle" ∧ (parseMethodDescriptor ns_y11.desc).map (fun d => d.parameters.length) = some 2 := by decide +kernel
abbrev ns_y12 : MethodName := ⟨"java/lang/String", "indexOf", "(I)I"⟩
theorem ns_p12 : plainFor ns_y12 = true := by decide +kernel
set_option maxRecDepth 100000 in
theorem ns_c12 : Cond.code ns_y12 prog_20_method_79_code 2 (some .int) ∈ nhTb := nhTb_mem (List.mem_of_getElem? (i := 741) rfl) rfl
theorem ns_i12 : Cond.instanceMethod ns_y12 ∈ nhTb := nh_wd_ok (i := 739) (by decide +kernel)
theorem ns_v12 : Cond.selects "java/lang/String" ns_y12 ns_y12 ∈ nhTb := nh_wd_ok (i := 740) (by decide +kernel)
theorem ns_d12 : ns_y12.cls ≠ "java/lang/invoke/MethodHandle" ∧ ns_y12.cls ≠ "java/lang/invoke/VarHandle" ∧ (parseMethodDescriptor ns_y12.desc).map (fun d => d.parameters.length) = some 1 := by decide +kernel
theorem ns_la : Cond.methodLink "java/lang/String" 1059 ns_y1 ∈ nhTb := nh_wd_ok (i := 708) (by decide +kernel)
theorem ns_lb : Cond.methodLink "java/lang/StringLatin1" 9 ns_y2 ∈ nhTb := nh_wd_ok (i := 703) (by decide +kernel)
theorem ns_lc : Cond.methodLink "java/lang/String" 492 ns_y4 ∈ nhTb := nh_wd_ok (i := 696) (by decide +kernel)
theorem ns_ld : Cond.methodLink "java/lang/String" 495 ns_y3 ∈ nhTb := nh_wd_ok (i := 700) (by decide +kernel)
theorem ns_le : Cond.methodLink "java/lang/String" 335 ns_y6 ∈ nhTb := nh_wd_ok (i := 686) (by decide +kernel)
theorem ns_lf : Cond.methodLink "java/lang/StringLatin1" 88 ns_y8 ∈ nhTb := nh_wd_ok (i := 750) (by decide +kernel)
theorem ns_lg : Cond.methodLink "java/lang/StringLatin1" 95 ns_y9 ∈ nhTb := nh_wd_ok (i := 757) (by decide +kernel)
theorem ns_lh : Cond.methodLink "java/lang/String" 505 ns_y7 ∈ nhTb := nh_wd_ok (i := 746) (by decide +kernel)
theorem ns_li : Cond.methodLink "java/lang/String" 637 ns_y10 ∈ nhTb := nh_wd_ok (i := 747) (by decide +kernel)
theorem ns_lj : Cond.methodLink "java/lang/String" 633 ns_y11 ∈ nhTb := nh_wd_ok (i := 742) (by decide +kernel)
theorem ns_lk : Cond.methodLink "NightHouses$Tokens" 74 ns_y7 ∈ nhTb := nh_wd_ok (i := 682) (by decide +kernel)
theorem ns_ll : Cond.methodLink "NightHouses$Tokens" 76 ns_y5 ∈ nhTb := nh_wd_ok (i := 692) (by decide +kernel)
theorem ns_lm : Cond.methodLink "NightHouses$Tokens" 58 ns_y12 ∈ nhTb := nh_wd_ok (i := 738) (by decide +kernel)
theorem ns_f9 : Cond.fieldLink "java/lang/String" 9 "java/lang/String" "value" "[B" ∈ nhTb := nh_wd_ok (i := 2088) (by decide +kernel)
theorem ns_f15 : Cond.fieldLink "java/lang/String" 15 "java/lang/String" "coder" "B" ∈ nhTb := nh_wd_ok (i := 2089) (by decide +kernel)
theorem ns_f38 : Cond.fieldLink "java/lang/String" 38 "java/lang/String" "COMPACT_STRINGS" "Z" ∈ nhTb := nh_wd_ok (i := 690) (by decide +kernel)
theorem ns_f1053 : Cond.fieldLink "java/lang/String" 1053 "jdk/internal/util/Preconditions" "SIOOBE_FORMATTER" "Ljava/util/function/BiFunction;" ∈ nhTb := nh_wd_ok (i := 706) (by decide +kernel)
theorem ns_n0 : Cond.initialized "java/lang/String" ∈ nhTb := nh_wd_ok (i := 133) (by decide +kernel)
theorem ns_n1 : Cond.initialized "java/lang/StringLatin1" ∈ nhTb := nh_wd_ok (i := 134) (by decide +kernel)
theorem ns_n2 : Cond.initialized "jdk/internal/util/Preconditions" ∈ nhTb := nh_wd_ok (i := 135) (by decide +kernel)
theorem ns_lmax : Cond.methodLink "java/lang/StringLatin1" 92 Lib.Math.max.name ∈ nhTb := nh_wd_ok (i := 753) (by decide +kernel)
theorem ns_lmin : Cond.methodLink "java/lang/StringLatin1" 38 Lib.Math.min.name ∈ nhTb := nh_wd_ok (i := 756) (by decide +kernel)
theorem ns_k1_0 : decode prog_25_method_11_code 0 = .ok (.iload_n 0, 1) := by decide +kernel
theorem ns_k1_1 : decode prog_25_method_11_code 1 = .ok (.ifCond .lt 8, 3) := by decide +kernel
theorem ns_k1_4 : decode prog_25_method_11_code 4 = .ok (.iload_n 0, 1) := by decide +kernel
theorem ns_k1_5 : decode prog_25_method_11_code 5 = .ok (.iload_n 1, 1) := by decide +kernel
theorem ns_k1_6 : decode prog_25_method_11_code 6 = .ok (.if_icmp .lt 10, 3) := by decide +kernel
theorem ns_k1_9 : decode prog_25_method_11_code 9 = .ok (.aload_n 2, 1) := by decide +kernel
theorem ns_k1_10 : decode prog_25_method_11_code 10 = .ok (.iload_n 0, 1) := by decide +kernel
theorem ns_k1_11 : decode prog_25_method_11_code 11 = .ok (.iload_n 1, 1) := by decide +kernel
theorem ns_k1_12 : decode prog_25_method_11_code 12 = .ok (.invokestatic 95, 3) := by decide +kernel
theorem ns_k1_16 : decode prog_25_method_11_code 16 = .ok (.iload_n 0, 1) := by decide +kernel
theorem ns_k1_17 : decode prog_25_method_11_code 17 = .ok (.ireturn, 1) := by decide +kernel
theorem ns_k2_0 : decode prog_20_method_155_code 0 = .ok (.iload_n 0, 1) := by decide +kernel
theorem ns_k2_1 : decode prog_20_method_155_code 1 = .ok (.iload_n 1, 1) := by decide +kernel
theorem ns_k2_2 : decode prog_20_method_155_code 2 = .ok (.getstatic 1053, 3) := by decide +kernel
theorem ns_k2_5 : decode prog_20_method_155_code 5 = .ok (.invokestatic 1059, 3) := by decide +kernel
theorem ns_k2_8 : decode prog_20_method_155_code 8 = .ok (.pop, 1) := by decide +kernel
theorem ns_k2_9 : decode prog_20_method_155_code 9 = .ok (.return_, 1) := by decide +kernel
theorem ns_k3_0 : decode prog_21_method_2_code 0 = .ok (.iload_n 1, 1) := by decide +kernel
theorem ns_k3_1 : decode prog_21_method_2_code 1 = .ok (.aload_n 0, 1) := by decide +kernel
theorem ns_k3_2 : decode prog_21_method_2_code 2 = .ok (.arraylength, 1) := by decide +kernel
theorem ns_k3_3 : decode prog_21_method_2_code 3 = .ok (.invokestatic 9, 3) := by decide +kernel
theorem ns_k3_6 : decode prog_21_method_2_code 6 = .ok (.aload_n 0, 1) := by decide +kernel
theorem ns_k3_7 : decode prog_21_method_2_code 7 = .ok (.iload_n 1, 1) := by decide +kernel
theorem ns_k3_8 : decode prog_21_method_2_code 8 = .ok (.baload, 1) := by decide +kernel
theorem ns_k3_9 : decode prog_21_method_2_code 9 = .ok (.sipush 255, 3) := by decide +kernel
theorem ns_k3_12 : decode prog_21_method_2_code 12 = .ok (.iand, 1) := by decide +kernel
theorem ns_k3_13 : decode prog_21_method_2_code 13 = .ok (.i2c, 1) := by decide +kernel
theorem ns_k3_14 : decode prog_21_method_2_code 14 = .ok (.ireturn, 1) := by decide +kernel
theorem ns_k4_0 : decode prog_20_method_154_code 0 = .ok (.getstatic 38, 3) := by decide +kernel
theorem ns_k4_3 : decode prog_20_method_154_code 3 = .ok (.ifCond .eq 14, 3) := by decide +kernel
theorem ns_k4_6 : decode prog_20_method_154_code 6 = .ok (.aload_n 0, 1) := by decide +kernel
theorem ns_k4_7 : decode prog_20_method_154_code 7 = .ok (.getfield 15, 3) := by decide +kernel
theorem ns_k4_10 : decode prog_20_method_154_code 10 = .ok (.ifCond .ne 7, 3) := by decide +kernel
theorem ns_k4_13 : decode prog_20_method_154_code 13 = .ok (.iconst 1, 1) := by decide +kernel
theorem ns_k4_14 : decode prog_20_method_154_code 14 = .ok (.goto 4, 3) := by decide +kernel
theorem ns_k4_17 : decode prog_20_method_154_code 17 = .ok (.iconst 0, 1) := by decide +kernel
theorem ns_k4_18 : decode prog_20_method_154_code 18 = .ok (.ireturn, 1) := by decide +kernel
theorem ns_k5_0 : decode prog_20_method_56_code 0 = .ok (.aload_n 0, 1) := by decide +kernel
theorem ns_k5_1 : decode prog_20_method_56_code 1 = .ok (.invokevirtual 492, 3) := by decide +kernel
theorem ns_k5_4 : decode prog_20_method_56_code 4 = .ok (.ifCond .eq 12, 3) := by decide +kernel
theorem ns_k5_7 : decode prog_20_method_56_code 7 = .ok (.aload_n 0, 1) := by decide +kernel
theorem ns_k5_8 : decode prog_20_method_56_code 8 = .ok (.getfield 9, 3) := by decide +kernel
theorem ns_k5_11 : decode prog_20_method_56_code 11 = .ok (.iload_n 1, 1) := by decide +kernel
theorem ns_k5_12 : decode prog_20_method_56_code 12 = .ok (.invokestatic 495, 3) := by decide +kernel
theorem ns_k5_15 : decode prog_20_method_56_code 15 = .ok (.ireturn, 1) := by decide +kernel
theorem ns_k5_16 : decode prog_20_method_56_code 16 = .ok (.aload_n 0, 1) := by decide +kernel
theorem ns_k5_17 : decode prog_20_method_56_code 17 = .ok (.getfield 9, 3) := by decide +kernel
theorem ns_k5_20 : decode prog_20_method_56_code 20 = .ok (.iload_n 1, 1) := by decide +kernel
theorem ns_k5_21 : decode prog_20_method_56_code 21 = .ok (.invokestatic 498, 3) := by decide +kernel
theorem ns_k5_24 : decode prog_20_method_56_code 24 = .ok (.ireturn, 1) := by decide +kernel
theorem ns_k6_0 : decode prog_20_method_152_code 0 = .ok (.getstatic 38, 3) := by decide +kernel
theorem ns_k6_3 : decode prog_20_method_152_code 3 = .ok (.ifCond .eq 10, 3) := by decide +kernel
theorem ns_k6_6 : decode prog_20_method_152_code 6 = .ok (.aload_n 0, 1) := by decide +kernel
theorem ns_k6_7 : decode prog_20_method_152_code 7 = .ok (.getfield 15, 3) := by decide +kernel
theorem ns_k6_10 : decode prog_20_method_152_code 10 = .ok (.goto 4, 3) := by decide +kernel
theorem ns_k6_13 : decode prog_20_method_152_code 13 = .ok (.iconst 1, 1) := by decide +kernel
theorem ns_k6_14 : decode prog_20_method_152_code 14 = .ok (.ireturn, 1) := by decide +kernel
theorem ns_k7_0 : decode prog_20_method_54_code 0 = .ok (.aload_n 0, 1) := by decide +kernel
theorem ns_k7_1 : decode prog_20_method_54_code 1 = .ok (.getfield 9, 3) := by decide +kernel
theorem ns_k7_4 : decode prog_20_method_54_code 4 = .ok (.arraylength, 1) := by decide +kernel
theorem ns_k7_5 : decode prog_20_method_54_code 5 = .ok (.aload_n 0, 1) := by decide +kernel
theorem ns_k7_6 : decode prog_20_method_54_code 6 = .ok (.invokevirtual 335, 3) := by decide +kernel
theorem ns_k7_9 : decode prog_20_method_54_code 9 = .ok (.ishr, 1) := by decide +kernel
theorem ns_k7_10 : decode prog_20_method_54_code 10 = .ok (.ireturn, 1) := by decide +kernel
theorem ns_k8_0 : decode prog_21_method_4_code 0 = .ok (.iload_n 0, 1) := by decide +kernel
theorem ns_k8_1 : decode prog_21_method_4_code 1 = .ok (.ifCond .lt 14, 3) := by decide +kernel
theorem ns_k8_4 : decode prog_21_method_4_code 4 = .ok (.iload_n 0, 1) := by decide +kernel
theorem ns_k8_5 : decode prog_21_method_4_code 5 = .ok (.sipush 255, 3) := by decide +kernel
theorem ns_k8_8 : decode prog_21_method_4_code 8 = .ok (.if_icmp .gt 7, 3) := by decide +kernel
theorem ns_k8_11 : decode prog_21_method_4_code 11 = .ok (.iconst 1, 1) := by decide +kernel
theorem ns_k8_12 : decode prog_21_method_4_code 12 = .ok (.goto 4, 3) := by decide +kernel
theorem ns_k8_15 : decode prog_21_method_4_code 15 = .ok (.iconst 0, 1) := by decide +kernel
theorem ns_k8_16 : decode prog_21_method_4_code 16 = .ok (.ireturn, 1) := by decide +kernel
theorem ns_k9_0 : decode prog_21_method_23_code 0 = .ok (.iload_n 1, 1) := by decide +kernel
theorem ns_k9_1 : decode prog_21_method_23_code 1 = .ok (.i2b, 1) := by decide +kernel
theorem ns_k9_2 : decode prog_21_method_23_code 2 = .ok (.istore 4, 2) := by decide +kernel
theorem ns_k9_4 : decode prog_21_method_23_code 4 = .ok (.iload_n 2, 1) := by decide +kernel
theorem ns_k9_5 : decode prog_21_method_23_code 5 = .ok (.istore 5, 2) := by decide +kernel
theorem ns_k9_7 : decode prog_21_method_23_code 7 = .ok (.iload 5, 2) := by decide +kernel
theorem ns_k9_9 : decode prog_21_method_23_code 9 = .ok (.iload_n 3, 1) := by decide +kernel
theorem ns_k9_10 : decode prog_21_method_23_code 10 = .ok (.if_icmp .ge 21, 3) := by decide +kernel
theorem ns_k9_13 : decode prog_21_method_23_code 13 = .ok (.aload_n 0, 1) := by decide +kernel
theorem ns_k9_14 : decode prog_21_method_23_code 14 = .ok (.iload 5, 2) := by decide +kernel
theorem ns_k9_16 : decode prog_21_method_23_code 16 = .ok (.baload, 1) := by decide +kernel
theorem ns_k9_17 : decode prog_21_method_23_code 17 = .ok (.iload 4, 2) := by decide +kernel
theorem ns_k9_19 : decode prog_21_method_23_code 19 = .ok (.if_icmp .ne 6, 3) := by decide +kernel
theorem ns_k9_22 : decode prog_21_method_23_code 22 = .ok (.iload 5, 2) := by decide +kernel
theorem ns_k9_24 : decode prog_21_method_23_code 24 = .ok (.ireturn, 1) := by decide +kernel
theorem ns_k9_25 : decode prog_21_method_23_code 25 = .ok (.iinc 5 1, 3) := by decide +kernel
theorem ns_k9_28 : decode prog_21_method_23_code 28 = .ok (.goto (-21), 3) := by decide +kernel
theorem ns_k9_31 : decode prog_21_method_23_code 31 = .ok (.iconst (-1), 1) := by decide +kernel
theorem ns_k9_32 : decode prog_21_method_23_code 32 = .ok (.ireturn, 1) := by decide +kernel
theorem ns_k10_0 : decode prog_21_method_22_code 0 = .ok (.iload_n 1, 1) := by decide +kernel
theorem ns_k10_1 : decode prog_21_method_22_code 1 = .ok (.invokestatic 88, 3) := by decide +kernel
theorem ns_k10_4 : decode prog_21_method_22_code 4 = .ok (.ifCond .ne 5, 3) := by decide +kernel
theorem ns_k10_7 : decode prog_21_method_22_code 7 = .ok (.iconst (-1), 1) := by decide +kernel
theorem ns_k10_8 : decode prog_21_method_22_code 8 = .ok (.ireturn, 1) := by decide +kernel
theorem ns_k10_9 : decode prog_21_method_22_code 9 = .ok (.iload_n 2, 1) := by decide +kernel
theorem ns_k10_10 : decode prog_21_method_22_code 10 = .ok (.iconst 0, 1) := by decide +kernel
theorem ns_k10_11 : decode prog_21_method_22_code 11 = .ok (.invokestatic 92, 3) := by decide +kernel
theorem ns_k10_14 : decode prog_21_method_22_code 14 = .ok (.istore_n 2, 1) := by decide +kernel
theorem ns_k10_15 : decode prog_21_method_22_code 15 = .ok (.iload_n 3, 1) := by decide +kernel
theorem ns_k10_16 : decode prog_21_method_22_code 16 = .ok (.aload_n 0, 1) := by decide +kernel
theorem ns_k10_17 : decode prog_21_method_22_code 17 = .ok (.arraylength, 1) := by decide +kernel
theorem ns_k10_18 : decode prog_21_method_22_code 18 = .ok (.invokestatic 38, 3) := by decide +kernel
theorem ns_k10_21 : decode prog_21_method_22_code 21 = .ok (.istore_n 3, 1) := by decide +kernel
theorem ns_k10_22 : decode prog_21_method_22_code 22 = .ok (.iload_n 2, 1) := by decide +kernel
theorem ns_k10_23 : decode prog_21_method_22_code 23 = .ok (.iload_n 3, 1) := by decide +kernel
theorem ns_k10_24 : decode prog_21_method_22_code 24 = .ok (.if_icmp .lt 5, 3) := by decide +kernel
theorem ns_k10_27 : decode prog_21_method_22_code 27 = .ok (.iconst (-1), 1) := by decide +kernel
theorem ns_k10_28 : decode prog_21_method_22_code 28 = .ok (.ireturn, 1) := by decide +kernel
theorem ns_k10_29 : decode prog_21_method_22_code 29 = .ok (.aload_n 0, 1) := by decide +kernel
theorem ns_k10_30 : decode prog_21_method_22_code 30 = .ok (.iload_n 1, 1) := by decide +kernel
theorem ns_k10_31 : decode prog_21_method_22_code 31 = .ok (.iload_n 2, 1) := by decide +kernel
theorem ns_k10_32 : decode prog_21_method_22_code 32 = .ok (.iload_n 3, 1) := by decide +kernel
theorem ns_k10_33 : decode prog_21_method_22_code 33 = .ok (.invokestatic 95, 3) := by decide +kernel
theorem ns_k10_36 : decode prog_21_method_22_code 36 = .ok (.ireturn, 1) := by decide +kernel
theorem ns_k11_0 : decode prog_20_method_80_code 0 = .ok (.aload_n 0, 1) := by decide +kernel
theorem ns_k11_1 : decode prog_20_method_80_code 1 = .ok (.invokevirtual 492, 3) := by decide +kernel
theorem ns_k11_4 : decode prog_20_method_80_code 4 = .ok (.ifCond .eq 19, 3) := by decide +kernel
theorem ns_k11_7 : decode prog_20_method_80_code 7 = .ok (.aload_n 0, 1) := by decide +kernel
theorem ns_k11_8 : decode prog_20_method_80_code 8 = .ok (.getfield 9, 3) := by decide +kernel
theorem ns_k11_11 : decode prog_20_method_80_code 11 = .ok (.iload_n 1, 1) := by decide +kernel
theorem ns_k11_12 : decode prog_20_method_80_code 12 = .ok (.iload_n 2, 1) := by decide +kernel
theorem ns_k11_13 : decode prog_20_method_80_code 13 = .ok (.aload_n 0, 1) := by decide +kernel
theorem ns_k11_14 : decode prog_20_method_80_code 14 = .ok (.invokevirtual 505, 3) := by decide +kernel
theorem ns_k11_17 : decode prog_20_method_80_code 17 = .ok (.invokestatic 637, 3) := by decide +kernel
theorem ns_k11_20 : decode prog_20_method_80_code 20 = .ok (.goto 16, 3) := by decide +kernel
theorem ns_k11_23 : decode prog_20_method_80_code 23 = .ok (.aload_n 0, 1) := by decide +kernel
theorem ns_k11_24 : decode prog_20_method_80_code 24 = .ok (.getfield 9, 3) := by decide +kernel
theorem ns_k11_27 : decode prog_20_method_80_code 27 = .ok (.iload_n 1, 1) := by decide +kernel
theorem ns_k11_28 : decode prog_20_method_80_code 28 = .ok (.iload_n 2, 1) := by decide +kernel
theorem ns_k11_29 : decode prog_20_method_80_code 29 = .ok (.aload_n 0, 1) := by decide +kernel
theorem ns_k11_30 : decode prog_20_method_80_code 30 = .ok (.invokevirtual 505, 3) := by decide +kernel
theorem ns_k11_33 : decode prog_20_method_80_code 33 = .ok (.invokestatic 640, 3) := by decide +kernel
theorem ns_k11_36 : decode prog_20_method_80_code 36 = .ok (.ireturn, 1) := by decide +kernel
theorem ns_k12_0 : decode prog_20_method_79_code 0 = .ok (.aload_n 0, 1) := by decide +kernel
theorem ns_k12_1 : decode prog_20_method_79_code 1 = .ok (.iload_n 1, 1) := by decide +kernel
theorem ns_k12_2 : decode prog_20_method_79_code 2 = .ok (.iconst 0, 1) := by decide +kernel
theorem ns_k12_3 : decode prog_20_method_79_code 3 = .ok (.invokevirtual 633, 3) := by decide +kernel
theorem ns_k12_6 : decode prog_20_method_79_code 6 = .ok (.ireturn, 1) := by decide +kernel
theorem ns_len {i : Nat} (hi : i < 2) : nkLen.getD i 0 < 2 ^ 31 := by
  rcases (show i = 0 ∨ i = 1 by omega) with rfl | rfl <;> decide
theorem ns_m1 (l : Launch) (K V : Nat → Nat) (A : Nat → Prop) {i n : Int32} {x : Value} (hx0 : x = .null ∨ ∃ t, x = .ref t) (h0 : 0 ≤ i.toInt) (h1 : i.toInt < n.toInt) : nsM l ns_y1 prog_25_method_11_code 3 (some .int) 0 0 K V A [.int i, .int n, x] (fun v => ∃ r : Int32, v = some (.int r)) := by
  refine ns_met ns_p1 (by rcases hx0 with rfl | ⟨t, rfl⟩ <;> exact Nat.le_of_ble_eq_true rfl) ?_
  intro p e s m below meth c ls hF hS hl
  obtain ⟨hx, hb, hml, hown, hts, hr, hlk⟩ := hF
  have hl : lv_has ls 3 [(0, .int i), (1, .int n), (2, x)] := hl
  refine lv_iload_n hx hb ns_k1_0 rfl (lv_at hl 0 rfl) ?_
  refine nh_ifW (t := 9) hx hb ns_k1_1 (by decide) (fun hc => ?_) (fun hc => ?_)
  · have h2 : i.toInt < 0 := by simpa [nh_cr] using hc
    omega
  · refine lv_iload_n hx hb ns_k1_4 rfl (lv_at hl 0 rfl) ?_
    refine lv_iload_n hx hb ns_k1_5 rfl (lv_at hl 1 rfl) ?_
    refine lv_icmp_lt hx hb (tgt := 16) ns_k1_6 (by decide) (fun _ => ?_) (fun h => absurd (Int32.lt_iff_toInt_lt.mpr h1) h)
    refine lv_iload_n hx hb ns_k1_16 rfl (lv_at hl 0 rfl) ?_
    exact W.iret hx hb hr (fun t ht _ => ⟨⟨_, rfl, _, rfl⟩, ht⟩) (fun q hq => by cases hq) ns_k1_17
theorem ns_m2 (l : Launch) (K V : Nat → Nat) (A : Nat → Prop) {i n : Int32} (h0 : 0 ≤ i.toInt) (h1 : i.toInt < n.toInt) : nsM l ns_y2 prog_20_method_155_code 2 none 1 22 K V A [.int i, .int n] (fun v => v = none) := by
  refine ns_met ns_p2 (Nat.le_of_ble_eq_true rfl) ?_
  intro p e s m below meth c ls hF hS hl
  obtain ⟨hx, hb, hml, hown, hts, hr, hlk⟩ := hF
  have hown : s.vm.findClass "java/lang/String" = some m.cls := hown
  have hl : lv_has ls 2 [(0, .int i), (1, .int n)] := hl
  refine lv_iload_n hx hb ns_k2_0 rfl (lv_at hl 0 rfl) ?_
  refine lv_iload_n hx hb ns_k2_1 rfl (lv_at hl 1 rfl) ?_
  have hz : ∃ x : Value, (x = .null ∨ ∃ t, x = .ref t) ∧ va_Z "jdk/internal/util/Preconditions" "SIOOBE_FORMATTER" "Ljava/util/function/BiFunction;" x A s s.heap := by
    rcases hS.2.2 with h | ⟨t, h⟩
    · exact ⟨_, Or.inl rfl, h⟩
    · exact ⟨_, Or.inr ⟨t, rfl⟩, h⟩
  obtain ⟨x, hx0, hz⟩ := hz
  refine va_gets hx hb hz (ns_S0 A s.heap) hown (hts _ ns_f1053) (fun _ h => h) ns_k2_2 ?_
  refine ns_callS (vals := [.int i, .int n, x]) (rest := []) hx hb hml hown hts ns_c1 ns_n2 ns_la ns_s1 ns_d1 ⟨by decide, by decide⟩ (ns_m1 l K V A hx0 h0 h1) rfl (fun U hU hW => hS.to hW (fun a _ _ => by rw [hU])) hl.1 (Nat.le_of_ble_eq_true rfl) ns_k2_5 (fun v L hv hL => ?_)
  obtain ⟨r, rfl⟩ := hv
  obtain rfl := ns_nil hL
  show W p l e _ s m _ below meth c s.heap [] 0 0 _ (F0 m 8 ls [.int r])
  refine lv_pop hx hb ns_k2_8 rfl ?_
  exact W.vret hx hb hr (fun t ht _ => ⟨⟨_, rfl, rfl⟩, ht⟩) (fun q hq => by cases hq) ns_k2_9
theorem ns_m3 (l : Launch) (K V : Nat → Nat) (A : Nat → Prop) {i k : Nat} (hi : i < 2) (hk : k < nkLen.getD i 0) : nsM l ns_y3 prog_21_method_2_code 2 (some .char) 2 43 K V A [.ref (V i), .int (nI k)] (fun v => ∃ r : Int32, v = some (.int r) ∧ narrow .char (.int r) = .int r) := by
  refine ns_met ns_p3 (Nat.le_of_ble_eq_true rfl) ?_
  intro p e s m below meth c ls hF hS hl
  obtain ⟨hx, hb, hml, hown, hts, hr, hlk⟩ := hF
  have hown : s.vm.findClass "java/lang/StringLatin1" = some m.cls := hown
  have hl : lv_has ls 2 [(0, .ref (V i)), (1, .int (nI k))] := hl
  have hN := ns_len hi
  have e1 : (nI k).toInt = k := nI_toInt (by omega)
  have e2 : (nI (nkLen.getD i 0)).toInt = (nkLen.getD i 0 : Nat) := nI_toInt hN
  refine lv_iload_n hx hb ns_k3_0 rfl (lv_at hl 1 rfl) ?_
  refine lv_aload_n hx hb ns_k3_1 rfl (lv_at hl 0 rfl) ?_
  refine va_tlen hx hb (hS.1.1 i hi).2.2.2 (ns_S0 A s.heap) (v := nI (nkLen.getD i 0)) rfl ns_k3_2 ?_
  refine ns_callS (vals := [.int (nI k), .int (nI (nkLen.getD i 0))]) (rest := []) hx hb hml hown hts ns_c2 ns_n0 ns_lb ns_s2 ns_d2 ⟨by decide, by decide⟩ (ns_m2 l K V A (i := nI k) (by omega) (by omega)) rfl (fun U hU hW => hS.to hW (fun a _ _ => by rw [hU])) hl.1 (Nat.le_of_ble_eq_true rfl) ns_k3_3 (fun v L hv hL => ?_)
  subst hv
  obtain rfl := ns_nil hL
  show W p l e _ s m _ below meth c s.heap [] 0 0 _ (F0 m 6 ls [])
  refine lv_aload_n hx hb ns_k3_6 rfl (lv_at hl 0 rfl) ?_
  refine lv_iload_n hx hb ns_k3_7 rfl (lv_at hl 1 rfl) ?_
  refine va_tb hx hb (hS.1.1 i hi).2.2.2 (ns_S0 A s.heap) (i := nI k) (nI_in hk hN) rfl ns_k3_8 ?_
  refine lv_sipush hx hb ns_k3_9 (v := 255) rfl ?_
  refine lv_iand hx hb ns_k3_12 ?_
  refine lv_i2c hx hb ns_k3_13 rfl ?_
  exact W.zret hx hb hr (pk_nc _) (fun t ht _ => ⟨⟨_, rfl, _, rfl, pk_nc _⟩, ht⟩) (fun q hq => by cases hq) ns_k3_14
theorem ns_m4 (l : Launch) (K V : Nat → Nat) (A : Nat → Prop) {i : Nat} (hi : i < 2) : nsM l ns_y4 prog_20_method_154_code 1 (some .boolean) 0 0 K V A [.ref (K i)] (fun v => v = some (.int 1)) := by
  refine ns_met ns_p4 (Nat.le_of_ble_eq_true rfl) ?_
  intro p e s m below meth c ls hF hS hl
  obtain ⟨hx, hb, hml, hown, hts, hr, hlk⟩ := hF
  have hown : s.vm.findClass "java/lang/String" = some m.cls := hown
  have hl : lv_has ls 1 [(0, .ref (K i))] := hl
  refine va_gets hx hb hS.2.1 (ns_S0 A s.heap) hown (hts _ ns_f38) (fun _ h => h) ns_k4_0 ?_
  refine nh_ifW (t := 17) hx hb ns_k4_3 (by decide) (fun hc => absurd hc (by decide +kernel)) (fun _ => ?_)
  refine lv_aload_n hx hb ns_k4_6 rfl (lv_at hl 0 rfl) ?_
  refine vk_getf hx hb (hS.1.1 i hi).2.1 (ns_S0 A s.heap) hown (hts _ ns_f15) (fun _ h => h) ns_k4_7 ?_
  refine nh_ifW (t := 17) hx hb ns_k4_10 (by decide) (fun hc => absurd hc (by decide +kernel)) (fun _ => ?_)
  refine lv_iconst hx hb ns_k4_13 (v := 1) rfl ?_
  refine lv_goto hx hb (tgt := 18) ns_k4_14 (by decide) ?_
  exact W.zret hx hb hr (congrArg Value.int (by decide : ((1 : Int32) &&& 1) = 1)) (fun t ht _ => ⟨⟨_, rfl, rfl⟩, ht⟩) (fun q hq => by cases hq) ns_k4_18
theorem ns_m5 (l : Launch) (K V : Nat → Nat) (A : Nat → Prop) {i k : Nat} (hi : i < 2) (hk : k < nkLen.getD i 0) : nsM l ns_y5 prog_20_method_56_code 2 (some .char) 3 64 K V A [.ref (K i), .int (nI k)] (fun v => ∃ r : Int32, v = some (.int r)) := by
  refine ns_met ns_p5 (Nat.le_of_ble_eq_true rfl) ?_
  intro p e s m below meth c ls hF hS hl
  obtain ⟨hx, hb, hml, hown, hts, hr, hlk⟩ := hF
  have hown : s.vm.findClass "java/lang/String" = some m.cls := hown
  have hl : lv_has ls 2 [(0, .ref (K i)), (1, .int (nI k))] := hl
  refine lv_aload_n hx hb ns_k5_0 rfl (lv_at hl 0 rfl) ?_
  refine ns_callV (b := K i) (As := []) (rest := []) hx hb hml hown hts ns_c4 ns_n0 ns_lc ns_i4 ns_v4 ns_d4 ⟨by decide, by decide⟩ (ns_m4 l K V A hi) rfl (vk_recv hS.1 hi (ns_S0 A s.heap)) (fun U hU hW => hS.to hW (fun a _ _ => by rw [hU])) hl.1 (Nat.le_of_ble_eq_true rfl) ns_k5_1 (fun v L hv hL => ?_)
  subst hv
  obtain rfl := ns_nil hL
  show W p l e _ s m _ below meth c s.heap [] 0 0 _ (F0 m 4 ls [.int 1])
  refine nh_ifW (t := 16) hx hb ns_k5_4 (by decide) (fun hc => absurd hc (by decide +kernel)) (fun _ => ?_)
  refine lv_aload_n hx hb ns_k5_7 rfl (lv_at hl 0 rfl) ?_
  refine vk_getf hx hb (hS.1.1 i hi).2.2.1 (ns_S0 A s.heap) hown (hts _ ns_f9) (fun _ h => h) ns_k5_8 ?_
  refine lv_iload_n hx hb ns_k5_11 rfl (lv_at hl 1 rfl) ?_
  refine ns_callS (vals := [.ref (V i), .int (nI k)]) (rest := []) hx hb hml hown hts ns_c3 ns_n1 ns_ld ns_s3 ns_d3 ⟨by decide, by decide⟩ (ns_m3 l K V A hi hk) rfl (fun U hU hW => hS.to hW (fun a _ _ => by rw [hU])) hl.1 (Nat.le_of_ble_eq_true rfl) ns_k5_12 (fun v L hv hL => ?_)
  obtain ⟨r, rfl, hn⟩ := hv
  obtain rfl := ns_nil hL
  show W p l e _ s m _ below meth c s.heap [] 0 0 _ (F0 m 15 ls [.int r])
  exact W.zret hx hb hr hn (fun t ht _ => ⟨⟨_, rfl, _, rfl⟩, ht⟩) (fun q hq => by cases hq) ns_k5_15
theorem ns_m6 (l : Launch) (K V : Nat → Nat) (A : Nat → Prop) {i : Nat} (hi : i < 2) : nsM l ns_y6 prog_20_method_152_code 1 (some .byte) 0 0 K V A [.ref (K i)] (fun v => v = some (.int 0)) := by
  refine ns_met ns_p6 (Nat.le_of_ble_eq_true rfl) ?_
  intro p e s m below meth c ls hF hS hl
  obtain ⟨hx, hb, hml, hown, hts, hr, hlk⟩ := hF
  have hown : s.vm.findClass "java/lang/String" = some m.cls := hown
  have hl : lv_has ls 1 [(0, .ref (K i))] := hl
  refine va_gets hx hb hS.2.1 (ns_S0 A s.heap) hown (hts _ ns_f38) (fun _ h => h) ns_k6_0 ?_
  refine nh_ifW (t := 13) hx hb ns_k6_3 (by decide) (fun hc => absurd hc (by decide +kernel)) (fun _ => ?_)
  refine lv_aload_n hx hb ns_k6_6 rfl (lv_at hl 0 rfl) ?_
  refine vk_getf hx hb (hS.1.1 i hi).2.1 (ns_S0 A s.heap) hown (hts _ ns_f15) (fun _ h => h) ns_k6_7 ?_
  refine lv_goto hx hb (tgt := 14) ns_k6_10 (by decide) ?_
  exact W.zret hx hb hr (congrArg Value.int (by decide : ((0 : Int32).toInt8.toInt32) = 0)) (fun t ht _ => ⟨⟨_, rfl, rfl⟩, ht⟩) (fun q hq => by cases hq) ns_k6_14
theorem ns_m7 (l : Launch) (K V : Nat → Nat) (A : Nat → Prop) {i : Nat} (hi : i < 2) : nsM l ns_y7 prog_20_method_54_code 1 (some .int) 1 20 K V A [.ref (K i)] (fun v => v = some (.int (nI (nkLen.getD i 0)))) := by
  refine ns_met ns_p7 (Nat.le_of_ble_eq_true rfl) ?_
  intro p e s m below meth c ls hF hS hl
  obtain ⟨hx, hb, hml, hown, hts, hr, hlk⟩ := hF
  have hown : s.vm.findClass "java/lang/String" = some m.cls := hown
  have hl : lv_has ls 1 [(0, .ref (K i))] := hl
  have hsh : nI (nkLen.getD i 0) >>> ((0 : Int32) &&& 31) = nI (nkLen.getD i 0) := by
    rcases (show i = 0 ∨ i = 1 by omega) with rfl | rfl <;> decide +kernel
  refine lv_aload_n hx hb ns_k7_0 rfl (lv_at hl 0 rfl) ?_
  refine vk_getf hx hb (hS.1.1 i hi).2.2.1 (ns_S0 A s.heap) hown (hts _ ns_f9) (fun _ h => h) ns_k7_1 ?_
  refine va_tlen hx hb (hS.1.1 i hi).2.2.2 (ns_S0 A s.heap) (v := nI (nkLen.getD i 0)) rfl ns_k7_4 ?_
  refine lv_aload_n hx hb ns_k7_5 rfl (lv_at hl 0 rfl) ?_
  refine ns_callV (b := K i) (As := []) (rest := [.int (nI (nkLen.getD i 0))]) hx hb hml hown hts ns_c6 ns_n0 ns_le ns_i6 ns_v6 ns_d6 ⟨by decide, by decide⟩ (ns_m6 l K V A hi) rfl (vk_recv hS.1 hi (ns_S0 A s.heap)) (fun U hU hW => hS.to hW (fun a _ _ => by rw [hU])) hl.1 (Nat.le_of_ble_eq_true rfl) ns_k7_6 (fun v L hv hL => ?_)
  subst hv
  obtain rfl := ns_nil hL
  show W p l e _ s m _ below meth c s.heap [] 0 0 _ (F0 m 9 ls [.int 0, .int (nI (nkLen.getD i 0))])
  refine lv_ishr hx hb ns_k7_9 ?_
  rw [hsh]
  exact W.iret hx hb hr (fun t ht _ => ⟨⟨_, rfl, rfl⟩, ht⟩) (fun q hq => by cases hq) ns_k7_10
theorem ns_m8 (l : Launch) (K V : Nat → Nat) (A : Nat → Prop) (ch : Int32) : nsM l ns_y8 prog_21_method_4_code 1 (some .boolean) 0 0 K V A [.int ch] (fun v => v = some (.int 0) ∨ v = some (.int 1)) := by
  refine ns_met ns_p8 (Nat.le_of_ble_eq_true rfl) ?_
  intro p e s m below meth c ls hF hS hl
  obtain ⟨hx, hb, hml, hown, hts, hr, hlk⟩ := hF
  have hl : lv_has ls 1 [(0, .int ch)] := hl
  have h0 : W p l e (nkRm 0 0) s m ([.int ch] : List Value).toArray below meth c s.heap [] 0 0 (MQ below (nsQc (fun v => v = some (.int 0) ∨ v = some (.int 1))) ([.int ch] : List Value).toArray s 0 0 (fun _ => False)) (F0 m 15 ls []) := by
    refine lv_iconst hx hb ns_k8_15 (v := 0) rfl ?_
    exact W.zret hx hb hr (congrArg Value.int (by decide : ((0 : Int32) &&& 1) = 0)) (fun t ht _ => ⟨⟨_, rfl, Or.inl rfl⟩, ht⟩) (fun q hq => by cases hq) ns_k8_16
  refine lv_iload_n hx hb ns_k8_0 rfl (lv_at hl 0 rfl) ?_
  refine nh_ifW (t := 15) hx hb ns_k8_1 (by decide) (fun _ => h0) (fun _ => ?_)
  refine lv_iload_n hx hb ns_k8_4 rfl (lv_at hl 0 rfl) ?_
  refine lv_sipush hx hb ns_k8_5 (v := 255) rfl ?_
  refine lv_icmp_gt hx hb (tgt := 15) ns_k8_8 (by decide) (fun _ => h0) (fun _ => ?_)
  refine lv_iconst hx hb ns_k8_11 (v := 1) rfl ?_
  refine lv_goto hx hb (tgt := 16) ns_k8_12 (by decide) ?_
  exact W.zret hx hb hr (congrArg Value.int (by decide : ((1 : Int32) &&& 1) = 1)) (fun t ht _ => ⟨⟨_, rfl, Or.inr rfl⟩, ht⟩) (fun q hq => by cases hq) ns_k8_16
theorem ns_m9 (l : Launch) (K V : Nat → Nat) (A : Nat → Prop) {i : Nat} (hi : i < 2) (ch : Int32) : nsM l ns_y9 prog_21_method_23_code 6 (some .int) 0 0 K V A [.ref (V i), .int ch, .int (nI 0), .int (nI (nkLen.getD i 0))] (fun v => ∃ r : Int32, v = some (.int r)) := by
  refine ns_met ns_p9 (Nat.le_of_ble_eq_true rfl) ?_
  intro p e s m below meth c ls hF hS hl
  obtain ⟨hx, hb, hml, hown, hts, hr, hlk⟩ := hF
  have hl : lv_has ls 6 [(0, .ref (V i)), (1, .int ch), (2, .int (nI 0)), (3, .int (nI (nkLen.getD i 0)))] := hl
  have hN := ns_len hi
  have loop : ∀ (d k : Nat) (ls : Array Slot), nkLen.getD i 0 - k = d → k ≤ nkLen.getD i 0 → lv_has ls 6 [(5, .int (nI k)), (4, .int ch.toInt8.toInt32), (0, .ref (V i)), (3, .int (nI (nkLen.getD i 0)))] → W p l e (nkRm 0 0) s m ([.ref (V i), .int ch, .int (nI 0), .int (nI (nkLen.getD i 0))] : List Value).toArray below meth c s.heap [] 0 0 (MQ below (nsQc (fun v => ∃ r : Int32, v = some (.int r))) ([.ref (V i), .int ch, .int (nI 0), .int (nI (nkLen.getD i 0))] : List Value).toArray s 0 0 (fun _ => False)) (F0 m 7 ls []) := by
    intro d
    induction d with
    | zero =>
      intro k ls hd hk hl
      refine lv_iload hx hb ns_k9_7 (lv_at hl 0 rfl) ?_
      refine lv_iload_n hx hb ns_k9_9 rfl (lv_at hl 3 rfl) ?_
      refine lv_icmp_ge hx hb (tgt := 31) ns_k9_10 (by decide) (fun _ => ?_) (fun h => absurd (nI_le (by omega) (by omega)) h)
      refine lv_iconst hx hb ns_k9_31 (v := Int32.ofInt (-1)) rfl ?_
      exact W.iret hx hb hr (fun t ht _ => ⟨⟨_, rfl, _, rfl⟩, ht⟩) (fun q hq => by cases hq) ns_k9_32
    | succ d ih =>
      intro k ls hd hk hl
      refine lv_iload hx hb ns_k9_7 (lv_at hl 0 rfl) ?_
      refine lv_iload_n hx hb ns_k9_9 rfl (lv_at hl 3 rfl) ?_
      refine lv_icmp_ge hx hb (tgt := 31) ns_k9_10 (by decide) (fun h => absurd h (nI_ge (by omega) (by omega))) (fun _ => ?_)
      refine lv_aload_n hx hb ns_k9_13 rfl (lv_at hl 2 rfl) ?_
      refine lv_iload hx hb ns_k9_14 (lv_at hl 0 rfl) ?_
      refine va_tb hx hb (hS.1.1 i hi).2.2.2 (ns_S0 A s.heap) (i := nI k) (nI_in (by omega) hN) rfl ns_k9_16 ?_
      refine lv_iload hx hb ns_k9_17 (lv_at hl 1 rfl) ?_
      refine lv_icmp_ne hx hb (tgt := 25) ns_k9_19 (by decide) (fun _ => ?_) (fun _ => ?_)
      · refine lv_iinc (k := 0) (v := nI (k + 1)) (lv' := [(5, .int (nI (k + 1))), (4, .int ch.toInt8.toInt32), (0, .ref (V i)), (3, .int (nI (nkLen.getD i 0)))]) hx hb ns_k9_25 hl rfl (nI_succ k).symm (by decide) rfl (fun ls1 hl1 => ?_)
        refine lv_goto hx hb (tgt := 7) ns_k9_28 (by decide) ?_
        exact ih (k + 1) ls1 (by omega) (by omega) hl1
      · refine lv_iload hx hb ns_k9_22 (lv_at hl 0 rfl) ?_
        exact W.iret hx hb hr (fun t ht _ => ⟨⟨_, rfl, _, rfl⟩, ht⟩) (fun q hq => by cases hq) ns_k9_24
  refine lv_iload_n hx hb ns_k9_0 rfl (lv_at hl 1 rfl) ?_
  refine lv_i2b hx hb ns_k9_1 rfl ?_
  refine lv_istore (lv' := [(4, .int ch.toInt8.toInt32), (0, .ref (V i)), (1, .int ch), (2, .int (nI 0)), (3, .int (nI (nkLen.getD i 0)))]) hx hb ns_k9_2 hl (by decide) rfl (fun ls hl => ?_)
  refine lv_iload_n hx hb ns_k9_4 rfl (lv_at hl 3 rfl) ?_
  refine lv_istore (lv' := [(5, .int (nI 0)), (4, .int ch.toInt8.toInt32), (0, .ref (V i)), (1, .int ch), (2, .int (nI 0)), (3, .int (nI (nkLen.getD i 0)))]) hx hb ns_k9_5 hl (by decide) rfl (fun ls hl => ?_)
  exact loop _ 0 ls rfl (Nat.zero_le _) (lv_sub hl [0, 1, 2, 5] rfl)
theorem ns_m10 (l : Launch) (K V : Nat → Nat) (A : Nat → Prop) {i : Nat} (hi : i < 2) (ch : Int32) : nsM l ns_y10 prog_21_method_22_code 4 (some .int) 1 25 K V A [.ref (V i), .int ch, .int (nI 0), .int (nI (nkLen.getD i 0))] (fun v => ∃ r : Int32, v = some (.int r)) := by
  refine ns_met ns_p10 (Nat.le_of_ble_eq_true rfl) ?_
  intro p e s m below meth c ls hF hS hl
  obtain ⟨hx, hb, hml, hown, hts, hr, hlk⟩ := hF
  have hown : s.vm.findClass "java/lang/StringLatin1" = some m.cls := hown
  have hl : lv_has ls 4 [(0, .ref (V i)), (1, .int ch), (2, .int (nI 0)), (3, .int (nI (nkLen.getD i 0)))] := hl
  refine lv_iload_n hx hb ns_k10_0 rfl (lv_at hl 1 rfl) ?_
  refine ns_callS (vals := [.int ch]) (rest := []) hx hb hml hown hts ns_c8 ns_n1 ns_lf ns_s8 ns_d8 ⟨by decide, by decide⟩ (ns_m8 l K V A ch) rfl (fun U hU hW => hS.to hW (fun a _ _ => by rw [hU])) hl.1 (Nat.le_of_ble_eq_true rfl) ns_k10_1 (fun v L hv hL => ?_)
  obtain rfl := ns_nil hL
  rcases hv with rfl | rfl
  · show W p l e _ s m _ below meth c s.heap [] 0 0 _ (F0 m 4 ls [.int 0])
    refine nh_ifW (t := 9) hx hb ns_k10_4 (by decide) (fun hc => absurd hc (by decide +kernel)) (fun _ => ?_)
    refine lv_iconst hx hb ns_k10_7 (v := Int32.ofInt (-1)) rfl ?_
    exact W.iret hx hb hr (fun t ht _ => ⟨⟨_, rfl, _, rfl⟩, ht⟩) (fun q hq => by cases hq) ns_k10_8
  · show W p l e _ s m _ below meth c s.heap [] 0 0 _ (F0 m 4 ls [.int 1])
    refine nh_ifW (t := 9) hx hb ns_k10_4 (by decide) (fun _ => ?_) (fun hc => absurd hc (by decide +kernel))
    refine lv_iload_n hx hb ns_k10_9 rfl (lv_at hl 2 rfl) ?_
    refine lv_iconst hx hb ns_k10_10 (v := nI 0) rfl ?_
    refine va_mmax hx hb (hml.trans hl.1.symm) hown (hts _ ns_lmax) (hts _ ceSp_s2) (hts _ ceSp_i1) (hts _ ceSp_c2) (by decide) (Nat.le_of_ble_eq_true rfl) (Nat.zero_le _) (Nat.zero_le _) ns_k10_11 ?_
    rw [ite_self]
    refine lv_istore_n (lv' := [(2, .int (nI 0)), (0, .ref (V i)), (1, .int ch), (3, .int (nI (nkLen.getD i 0)))]) hx hb ns_k10_14 rfl hl (by decide) rfl (fun ls hl => ?_)
    refine lv_iload_n hx hb ns_k10_15 rfl (lv_at hl 3 rfl) ?_
    refine lv_aload_n hx hb ns_k10_16 rfl (lv_at hl 1 rfl) ?_
    refine va_tlen hx hb (hS.1.1 i hi).2.2.2 (ns_S0 A s.heap) (v := nI (nkLen.getD i 0)) rfl ns_k10_17 ?_
    refine va_mmin hx hb (hml.trans hl.1.symm) hown (hts _ ns_lmin) (hts _ ceSp_s1) (hts _ ceSp_i1) (hts _ ceSp_c1) (by decide) (Nat.le_of_ble_eq_true rfl) (Nat.zero_le _) (Nat.zero_le _) ns_k10_18 ?_
    rw [ite_self]
    refine lv_istore_n (lv' := [(3, .int (nI (nkLen.getD i 0))), (2, .int (nI 0)), (0, .ref (V i)), (1, .int ch)]) hx hb ns_k10_21 rfl hl (by decide) rfl (fun ls hl => ?_)
    refine lv_iload_n hx hb ns_k10_22 rfl (lv_at hl 1 rfl) ?_
    refine lv_iload_n hx hb ns_k10_23 rfl (lv_at hl 0 rfl) ?_
    refine lv_icmp_lt hx hb (tgt := 29) ns_k10_24 (by decide) (fun _ => ?_) (fun _ => ?_)
    · refine lv_aload_n hx hb ns_k10_29 rfl (lv_at hl 2 rfl) ?_
      refine lv_iload_n hx hb ns_k10_30 rfl (lv_at hl 3 rfl) ?_
      refine lv_iload_n hx hb ns_k10_31 rfl (lv_at hl 1 rfl) ?_
      refine lv_iload_n hx hb ns_k10_32 rfl (lv_at hl 0 rfl) ?_
      refine ns_callS (vals := [.ref (V i), .int ch, .int (nI 0), .int (nI (nkLen.getD i 0))]) (rest := []) hx hb hml hown hts ns_c9 ns_n1 ns_lg ns_s9 ns_d9 ⟨by decide, by decide⟩ (ns_m9 l K V A hi ch) rfl (fun U hU hW => hS.to hW (fun a _ _ => by rw [hU])) hl.1 (Nat.le_of_ble_eq_true rfl) ns_k10_33 (fun v L hv hL => ?_)
      obtain ⟨r, rfl⟩ := hv
      obtain rfl := ns_nil hL
      show W p l e _ s m _ below meth c s.heap [] 0 0 _ (F0 m 36 ls [.int r])
      exact W.iret hx hb hr (fun t ht _ => ⟨⟨_, rfl, _, rfl⟩, ht⟩) (fun q hq => by cases hq) ns_k10_36
    · refine lv_iconst hx hb ns_k10_27 (v := Int32.ofInt (-1)) rfl ?_
      exact W.iret hx hb hr (fun t ht _ => ⟨⟨_, rfl, _, rfl⟩, ht⟩) (fun q hq => by cases hq) ns_k10_28
theorem ns_m11 (l : Launch) (K V : Nat → Nat) (A : Nat → Prop) {i : Nat} (hi : i < 2) (ch : Int32) : nsM l ns_y11 prog_20_method_80_code 3 (some .int) 2 48 K V A [.ref (K i), .int ch, .int (nI 0)] (fun v => ∃ r : Int32, v = some (.int r)) := by
  refine ns_met ns_p11 (Nat.le_of_ble_eq_true rfl) ?_
  intro p e s m below meth c ls hF hS hl
  obtain ⟨hx, hb, hml, hown, hts, hr, hlk⟩ := hF
  have hown : s.vm.findClass "java/lang/String" = some m.cls := hown
  have hl : lv_has ls 3 [(0, .ref (K i)), (1, .int ch), (2, .int (nI 0))] := hl
  refine lv_aload_n hx hb ns_k11_0 rfl (lv_at hl 0 rfl) ?_
  refine ns_callV (b := K i) (As := []) (rest := []) hx hb hml hown hts ns_c4 ns_n0 ns_lc ns_i4 ns_v4 ns_d4 ⟨by decide, by decide⟩ (ns_m4 l K V A hi) rfl (vk_recv hS.1 hi (ns_S0 A s.heap)) (fun U hU hW => hS.to hW (fun a _ _ => by rw [hU])) hl.1 (Nat.le_of_ble_eq_true rfl) ns_k11_1 (fun v L hv hL => ?_)
  subst hv
  obtain rfl := ns_nil hL
  show W p l e _ s m _ below meth c s.heap [] 0 0 _ (F0 m 4 ls [.int 1])
  refine nh_ifW (t := 23) hx hb ns_k11_4 (by decide) (fun hc => absurd hc (by decide +kernel)) (fun _ => ?_)
  refine lv_aload_n hx hb ns_k11_7 rfl (lv_at hl 0 rfl) ?_
  refine vk_getf hx hb (hS.1.1 i hi).2.2.1 (ns_S0 A s.heap) hown (hts _ ns_f9) (fun _ h => h) ns_k11_8 ?_
  refine lv_iload_n hx hb ns_k11_11 rfl (lv_at hl 1 rfl) ?_
  refine lv_iload_n hx hb ns_k11_12 rfl (lv_at hl 2 rfl) ?_
  refine lv_aload_n hx hb ns_k11_13 rfl (lv_at hl 0 rfl) ?_
  refine ns_callV (b := K i) (As := []) (rest := [.int (nI 0), .int ch, .ref (V i)]) hx hb hml hown hts ns_c7 ns_n0 ns_lh ns_i7 ns_v7 ns_d7 ⟨by decide, by decide⟩ (ns_m7 l K V A hi) rfl (vk_recv hS.1 hi (ns_S0 A s.heap)) (fun U hU hW => hS.to hW (fun a _ _ => by rw [hU])) hl.1 (Nat.le_of_ble_eq_true rfl) ns_k11_14 (fun v L hv hL => ?_)
  subst hv
  obtain rfl := ns_nil hL
  show W p l e _ s m _ below meth c s.heap [] 0 0 _ (F0 m 17 ls [.int (nI (nkLen.getD i 0)), .int (nI 0), .int ch, .ref (V i)])
  refine ns_callS (vals := [.ref (V i), .int ch, .int (nI 0), .int (nI (nkLen.getD i 0))]) (rest := []) hx hb hml hown hts ns_c10 ns_n1 ns_li ns_s10 ns_d10 ⟨by decide, by decide⟩ (ns_m10 l K V A hi ch) rfl (fun U hU hW => hS.to hW (fun a _ _ => by rw [hU])) hl.1 (Nat.le_of_ble_eq_true rfl) ns_k11_17 (fun v L hv hL => ?_)
  obtain ⟨r, rfl⟩ := hv
  obtain rfl := ns_nil hL
  show W p l e _ s m _ below meth c s.heap [] 0 0 _ (F0 m 20 ls [.int r])
  refine lv_goto hx hb (tgt := 36) ns_k11_20 (by decide) ?_
  exact W.iret hx hb hr (fun t ht _ => ⟨⟨_, rfl, _, rfl⟩, ht⟩) (fun q hq => by cases hq) ns_k11_36
theorem ns_m12 (l : Launch) (K V : Nat → Nat) (A : Nat → Prop) {i : Nat} (hi : i < 2) (ch : Int32) : nsM l ns_y12 prog_20_method_79_code 2 (some .int) 3 70 K V A [.ref (K i), .int ch] (fun v => ∃ r : Int32, v = some (.int r)) := by
  refine ns_met ns_p12 (Nat.le_of_ble_eq_true rfl) ?_
  intro p e s m below meth c ls hF hS hl
  obtain ⟨hx, hb, hml, hown, hts, hr, hlk⟩ := hF
  have hown : s.vm.findClass "java/lang/String" = some m.cls := hown
  have hl : lv_has ls 2 [(0, .ref (K i)), (1, .int ch)] := hl
  refine lv_aload_n hx hb ns_k12_0 rfl (lv_at hl 0 rfl) ?_
  refine lv_iload_n hx hb ns_k12_1 rfl (lv_at hl 1 rfl) ?_
  refine lv_iconst hx hb ns_k12_2 (v := nI 0) rfl ?_
  refine ns_callV (b := K i) (As := [.int ch, .int (nI 0)]) (rest := []) hx hb hml hown hts ns_c11 ns_n0 ns_lj ns_i11 ns_v11 ns_d11 ⟨by decide, by decide⟩ (ns_m11 l K V A hi ch) rfl (vk_recv hS.1 hi (ns_S0 A s.heap)) (fun U hU hW => hS.to hW (fun a _ _ => by rw [hU])) hl.1 (Nat.le_of_ble_eq_true rfl) ns_k12_3 (fun v L hv hL => ?_)
  obtain ⟨r, rfl⟩ := hv
  obtain rfl := ns_nil hL
  show W p l e _ s m _ below meth c s.heap [] 0 0 _ (F0 m 6 ls [.int r])
  exact W.iret hx hb hr (fun t ht _ => ⟨⟨_, rfl, _, rfl⟩, ht⟩) (fun q hq => by cases hq) ns_k12_6

