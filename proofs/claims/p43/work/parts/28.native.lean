/-! System.arraycopy, Math.min, max, abs: their words by program -/
def ceSp : List (List (Nat × Nat × Nat)) := [[], [], [], [(75, 3, 969)], [(26, 0, 571)], [(33, 1, 1135), (64, 0, 1142)], [], [(96, 2, 1375)], [], [(13, 1, 658)], [], [(277, 0, 1153), (317, 2, 1230), (339, 1, 1285)], [], [], [], [], [], [], [(92, 2, 753), (38, 1, 756)], [(224, 2, 763), (183, 1, 764)], []]
def ceNm (k : Nat) : MethodName := match k with
  | 0 => arraycopyName
  | 1 => Lib.Math.min.name
  | 2 => Lib.Math.max.name
  | _ => Lib.Math.abs.name
def ce_spB (o : Nat) (q : Nat × Nat × Nat) : Bool := match nhOw[o]? with
  | some C => nh_wd q.2.2 (Cond.methodLink C q.1 (ceNm q.2.1)) && decide (q.2.1 < 4)
  | _ => false
set_option maxRecDepth 100000 in
theorem ceSp_all : (List.range ceSp.length).all (fun o => (ceSp.getD o []).all (ce_spB o)) = true := by decide +kernel
theorem ceSp_n : Cond.native arraycopyName ∈ nhTb := nh_wd_ok (i := 573) (by decide +kernel)
theorem ceSp_i0 : Cond.initialized "java/lang/System" ∈ nhTb := nh_wd_ok (i := 129) (by decide +kernel)
theorem ceSp_i1 : Cond.initialized "java/lang/Math" ∈ nhTb := nh_wd_ok (i := 132) (by decide +kernel)
theorem ceSp_s0 : Cond.static arraycopyName ∈ nhTb := nh_wd_ok (i := 572) (by decide +kernel)
theorem ceSp_s1 : Cond.static Lib.Math.min.name ∈ nhTb := nh_wd_ok (i := 659) (by decide +kernel)
theorem ceSp_s2 : Cond.static Lib.Math.max.name ∈ nhTb := nh_wd_ok (i := 754) (by decide +kernel)
theorem ceSp_s3 : Cond.static Lib.Math.abs.name ∈ nhTb := nh_wd_ok (i := 970) (by decide +kernel)
set_option maxRecDepth 100000 in
theorem ceSp_c1 : Cond.code Lib.Math.min.name Lib.Math.min.code 2 (some .int) ∈ nhTb := nhTb_mem (List.mem_of_getElem? (i := 660) rfl) rfl
set_option maxRecDepth 100000 in
theorem ceSp_c2 : Cond.code Lib.Math.max.name Lib.Math.max.code 2 (some .int) ∈ nhTb := nhTb_mem (List.mem_of_getElem? (i := 755) rfl) rfl
set_option maxRecDepth 100000 in
theorem ceSp_c3 : Cond.code Lib.Math.abs.name Lib.Math.abs.code 1 (some .int) ∈ nhTb := nhTb_mem (List.mem_of_getElem? (i := 971) rfl) rfl
theorem arrV_cong (cI : ClassId) {N : Nat} {f g : Nat → Value} (h : ∀ j, j < N → f j = g j) : arrV cI N f = arrV cI N g := by
  unfold arrV
  congr 1
  congr 1
  funext i
  exact h i.val i.isLt
section NH28
variable {p : Program} {l : Launch} {e : Env} {R : Room} {s : State} {m : MethodId} {args : Array Value} {below : List Frame} {meth : Method} {c : Code} {H : Heap} {locs : List Loc} {cells slots : Nat} {Q : State → Prop} {cc : ByteArray} {pc : Nat} {ls : Array Slot} {rest : List Value} {a a0 : Nat}
/-- System.arraycopy of ints -/
theorem nh_copyW (hexec : p.tables.exec = Jvm.exec) (hb : c.code = cc) (hml : c.maxLocals = ls.size) {own : String} {index : Nat} (hown : s.vm.findClass own = some m.cls) (hlink : (Cond.methodLink own index arraycopyName).before args s = true) (hnat : (Cond.native arraycopyName).before args s = true) (hstat : (Cond.static arraycopyName).before args s = true) (hini : (Cond.initialized "java/lang/System").before args s = true)
    {c0 : ClassId} (hA : ArrOfT s c0 .int) {n0 n1 : Nat} {f g : Nat → Int32} (hc0 : H[a0]? = some (arrV c0 n0 (fun j => .int (f j)))) (hc1 : H[a]? = some (arrV c0 n1 (fun j => .int (g j))))
    {sp dp n : Int32} (h1 : ¬ sp < 0) (h2 : ¬ dp < 0) (h3 : ¬ n < 0) (h4 : sp.toNatClampNeg + n.toNatClampNeg ≤ n0) (h5 : dp.toNatClampNeg + n.toNatClampNeg ≤ n1)
    (hframes : 1 ≤ R.frames) (hlocals : (rest.map fun v => v.category).sum + (nativeFrameWords "java/lang/System" "arraycopy" 5 + 11) ≤ R.locals) (hdg : decode cc pc = .ok (.invokestatic index, 3))
    (kk : ∀ (H1 : Heap) (L : List Loc), H1[a]? = some (arrV c0 n1 (fun j => .int (va_cpy f g sp.toNatClampNeg dp.toNatClampNeg n.toNatClampNeg j))) → H1.size = H.size → (∀ q : Nat, q ≠ a → H1[q]? = H[q]?) → (∀ q ∈ L, q.base = a) → W p l e R s m args below meth c H1 (locs ++ L) cells slots Q (F0 m (pc + 3) ls rest)) : W p l e R s m args below meth c H locs cells slots Q (F0 m pc ls (.int n :: .int dp :: .ref a :: .int sp :: .ref a0 :: rest)) := by
  have nn : ∀ z : Int32, ¬ z < 0 → z.toInt = (z.toNatClampNeg : Int) := by
    intro z hz
    have hz0 : (0 : Int) ≤ z.toInt := by
      have := Int32.not_lt.mp hz
      simpa using Int32.le_iff_toInt_le.mp this
    show z.toInt = ((z.toInt.toNat : Nat) : Int)
    omega
  intro T hT X
  obtain ⟨-, k0, hk0, cm0, hkk0⟩ := hA n0 (fun j => .int (f j))
  obtain ⟨-, k1, hk1, cm1, hkk1⟩ := hA n1 (fun j => .int (g j))
  obtain ⟨vm', X', step⟩ := X.arraycopy hexec hown hlink hnat hstat hini (src := a0) (dst := a) (cs := arrV c0 n0 (fun j => .int (f j))) (cd := arrV c0 n1 (fun j => .int (g j))) (srcPos := sp) (destPos := dp) (n := n) (by rw [hT]; exact hc0) (by rw [hT]; exact hc1)
    (fun _ h => by cases h) (fun _ h => by cases h) (fun h => by cases h) (fun h => by cases h) hk0 hk1 hkk0 hkk1 (by simp [refKind]) h1 h2 h3
    (by rw [nn sp h1, nn n h3, arrV_size]; omega)
    (by rw [nn dp h2, nn n h3, arrV_size]; omega)
    (fun vm₁ _ i hi => by
      have e : (arrV c0 n0 (fun j => Value.int (f j))).slots.getD (sp.toNatClampNeg + i) .null = .int (f (sp.toNatClampNeg + i)) := by
        rw [Array.getD_eq_getD_getElem?, arrV_read _ _ (by omega)]
        rfl
      refine ⟨?_, ?_⟩
      · rw [e]
        rfl
      · rw [e]
        exact trivial)
    (g := F0 m pc ls (.int n :: .int dp :: .ref a :: .int sp :: .ref a0 :: rest)) rfl (by rw [hml]) (rest := rest) rfl (by rw [hb]; exact hdg) hframes (by show 2 * 0 + _ + _ ≤ _; omega)
  have e1 : copied (arrV c0 n0 (fun j => .int (f j))) (arrV c0 n1 (fun j => .int (g j))) sp dp n = arrV c0 n1 (fun j => .int (va_cpy f g sp.toNatClampNeg dp.toNatClampNeg n.toNatClampNeg j)) := va_copied (fun z => .int z) c0 c0 f g h4
  rw [e1] at X' step
  have hl : a < H.size := (Array.getElem?_eq_some_iff.mp hc1).1
  have hheap : ((T.setVm vm').setCell a (arrV c0 n1 (fun j => .int (va_cpy f g sp.toNatClampNeg dp.toNatClampNeg n.toNatClampNeg j)))).heap = H.setIfInBounds a (arrV c0 n1 (fun j => .int (va_cpy f g sp.toNatClampNeg dp.toNatClampNeg n.toNatClampNeg j))) := by rw [← hT]; rfl
  obtain ⟨t, a1, b1⟩ := kk _ _ (by simp [Array.getElem?_setIfInBounds, hl]) (by simp) (fun q hq => by simp [Array.getElem?_setIfInBounds, Ne.symm hq]) (fun q hq => by
      obtain ⟨z, -, hz⟩ := List.mem_map.mp hq
      rw [← hz]) _ hheap X'
  exact ⟨t, step t a1, b1⟩
end NH28
