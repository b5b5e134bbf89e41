/-! words for what is made, by program -/
def ceNl : List (List (Nat × Nat × Nat)) := [[(9, 4, 474)], [], [(9, 4, 399)], [(15, 1, 156)], [], [(18, 4, 443)], [(9, 9, 267)], [(34, 4, 512)], [], [], [], [(17, 3, 150), (27, 6, 261), (34, 4, 342), (44, 2, 393), (58, 10, 417), (65, 5, 437), (72, 0, 468), (79, 7, 506)], [], [], [], [], [], [], [], [], [(7, 11, 142), (10, 12, 1376)]]
def ceOi : List (List (Nat × Nat)) := [[(3, 473)], [(1, 161)], [(1, 398)], [(3, 155)], [(3, 347)], [(3, 442)], [(3, 266)], [(3, 511)], [], [(1, 272)], [(3, 422)], [(1, 147)], [(1, 1381)], [], [], [], [], [], [], [], []]
def ceIs : List (Nat × Nat) := [(469, 127), (157, 120), (394, 124), (151, 119), (343, 123), (438, 126), (262, 121), (507, 128), (0, 138), (268, 122), (418, 125), (143, 118), (1377, 131)]
def ce_nlB (o : Nat) (q : Nat × Nat × Nat) : Bool := match nhOw[o]?, nhCl[q.2.1]?, ceIs[q.2.1]? with
  | some C, some r, some z => nh_wd q.2.2 (Cond.classLink C q.1 r.1) && nh_wd z.1 (Cond.instantiable r.1 r.2.2) && nh_wd z.2 (Cond.initialized r.1)
  | _, _, _ => false
def ce_oiB (o : Nat) (q : Nat × Nat) : Bool := match nhOw[o]? with
  | some C => nh_wd q.2 (Cond.methodLink C q.1 Lib.objectInit)
  | _ => false
set_option maxRecDepth 100000 in
theorem ceNl_all : (List.range ceNl.length).all (fun o => (ceNl.getD o []).all (ce_nlB o)) = true := by decide +kernel
set_option maxRecDepth 100000 in
theorem ceOi_all : (List.range ceOi.length).all (fun o => (ceOi.getD o []).all (ce_oiB o)) = true := by decide +kernel
theorem ceOb1 : Cond.instanceMethod Lib.objectInit ∈ nhTb := nh_wd_ok (i := 148) (by decide +kernel)
set_option maxRecDepth 100000 in
theorem ceOb2 : Cond.code Lib.objectInit ⟨#[0xb1]⟩ 1 none ∈ nhTb := nhTb_mem (List.mem_of_getElem? (i := 149) rfl) rfl
theorem ceAr_int : Cond.arrayClass .int ∈ nhTb := nh_wd_ok (i := 181) (by decide +kernel)
theorem ceAr_byte : Cond.arrayClass .byte ∈ nhTb := nh_wd_ok (i := 180) (by decide +kernel)
theorem ceAr_long : Cond.arrayClass .long ∈ nhTb := nh_wd_ok (i := 341) (by decide +kernel)
theorem ceAr_boolean : Cond.arrayClass .boolean ∈ nhTb := nh_wd_ok (i := 546) (by decide +kernel)
