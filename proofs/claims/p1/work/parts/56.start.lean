/-! the law from its entry -/
set_option maxHeartbeats 4000000 in
/-- from the entry, for every script of at most 6 ints, the law comes to its end with true -/
theorem whole_start {p : Program} {e : Env} {s : State} {m : MethodId} {below : List Frame} {meth : Method} {c : Code} (l : Launch) (hflags : l.flags = flags0) {b L : Nat} {xs : Nat → Int32} (hL : L ≤ 6) (C0 : lw_At p s m meth c b L xs) : W p l e room_1 s m #[Value.ref b] below meth c s.heap [] 0 0 (lw_Z below #[Value.ref b] s) (entryFrame m ([Value.ref b] : List Value).toArray 4) := by
  obtain ⟨hx, hb, hr, hml, hown, hts0, hX, hbl, hlocks, hgv⟩ := id C0
  have hts : ∀ w ∈ nhTb, w.before #[Value.ref b] s = true := fun w hw => hts0 w (List.mem_filter.mp hw).1
  have hNs : ceNs s := lx_ns hts0
  obtain ⟨D, hK⟩ := lx_known hts hNs.2
  have hF : nhFx p c s m #[Value.ref b] code 4 20 D := ⟨hx, hb, hml, ⟨"NightHousesLaw", rfl, hown⟩, hts, hK⟩
  have hl := lv_entry ([.ref b]) (n := 4) (Nat.le_of_ble_eq_true rfl)
  rw [lg_entry_eq]
  generalize (lg_sl ([.ref b]) ++ List.replicate (4 - (lg_sl ([.ref b])).length) Slot.unset).toArray = ls at hl ⊢
  have hl : lv_has ls 4 [(0, .ref b)] := hl
  have hH0 : ceH D (fun k => xs (k + 1)) s.heap.size s.heap (0, []) s.heap := ⟨rfl, fun _ _ => rfl, fun i c h => by simp [ce_get] at h⟩
  refine lx_new hF hH0 lx_n7.1 rfl lx_o0 lx_f11 (lx_d lx_d0.1.1) (Nat.le_of_ble_eq_true rfl) (Nat.le_of_ble_eq_true rfl) (fun H hH => ?_)
  have hH : ceH D (fun k => xs (k + 1)) s.heap.size s.heap cw0 H := by rw [← lx_w0]; exact hH
  refine lv_dup hx hb (lx_d lx_d0.1.2.1) rfl ?_
  obtain ⟨y0, a1, a2, a3, a4, a5⟩ := lx_y0
  refine lx_ctor (o := 0) hF hNs hl.1 hH (fun q hq => by cases hq) a1 a2 a3 a4 a5 (lx_d lx_d0.1.2.2.1) ⟨Nat.le_of_ble_eq_true rfl, Nat.le_of_ble_eq_true rfl⟩ (Nat.le_of_ble_eq_true rfl) (Nat.le_of_ble_eq_true rfl) (Nat.le_of_ble_eq_true rfl) (fun H1 locs1 hH1 hloc1 => ?_)
  refine lv_astore_n (x := s.heap.size + 0) (lv' := [(1, .ref (s.heap.size + 0)), (0, .ref b)]) hx hb (lx_d lx_d0.1.2.2.2) rfl hl (by decide) rfl (fun ls hl => ?_)
  refine lx_new hF hH1 lx_n7.2 rfl lx_o1 lx_f12 (lx_d lx_d0.2.1.1) (Nat.le_of_ble_eq_true rfl) (Nat.le_of_ble_eq_true rfl) (fun H2 hH2 => ?_)
  have hH2 : ceH D (fun k => xs (k + 1)) s.heap.size s.heap cw2 H2 := by rw [← lx_w2]; exact hH2
  rw [lx_l1]
  refine lv_dup hx hb (lx_d lx_d0.2.1.2.1) rfl ?_
  obtain ⟨y1, b1, b2, b3, b4, b5⟩ := lx_y11
  refine lx_ctor (o := 281) hF hNs hl.1 hH2 hloc1 b1 b2 b3 b4 b5 (lx_d lx_d0.2.1.2.2.1) ⟨Nat.le_of_ble_eq_true rfl, Nat.le_of_ble_eq_true rfl⟩ (Nat.le_of_ble_eq_true rfl) (Nat.le_of_ble_eq_true rfl) (Nat.le_of_ble_eq_true rfl) (fun H3 locs3 hH3 hloc3 => ?_)
  refine W.widen (k := 600000) (n := 7302250) (Nat.le_of_ble_eq_true rfl) (Nat.le_of_ble_eq_true rfl) ?_
  refine lv_astore_n (x := s.heap.size + 281) (lv' := [(2, .ref (s.heap.size + 281)), (1, .ref (s.heap.size + 0)), (0, .ref b)]) hx hb (lx_d lx_d0.2.1.2.2.2) rfl hl (by decide) rfl (fun ls hl => ?_)
  refine lv_iconst (v := 0) hx hb (lx_d lx_d0.2.2.1.1) rfl ?_
  refine lv_istore_n (lv' := [(3, .int 0), (2, .ref (s.heap.size + 281)), (1, .ref (s.heap.size + 0)), (0, .ref b)]) hx hb (lx_d lx_d0.2.2.1.2) rfl hl (by decide) rfl (fun ls hl => ?_)
  have hHp : lx_Hp D xs s cw3 H3 locs3 := ⟨hH3, hloc3⟩
  refine lv_iload_n hx hb (lx_d lx_d1522.2.2.1) rfl (lv_at hl 0 rfl) ?_
  refine lv_aload_n hx hb (lx_d lx_d1522.2.2.2.1) rfl (lv_at hl 3 rfl) ?_
  refine va_slen hx hb hX hbl (Nat.not_le.mpr hbl) (lx_S hHp) (lx_d lx_d1522.2.2.2.2.1) ?_
  refine lv_bipush (v := 6) hx hb (lx_d lx_d1522.2.2.2.2.2.1) rfl ?_
  refine lv_isub hx hb (lx_d lx_d1522.2.2.2.2.2.2.1) ?_
  refine lv_icmp_gt (tgt := 1528) hx hb (lx_d lx_d1522.2.2.2.2.2.2.2.1) (by decide) (fun _ => lx_end C0 hloc3) (fun hc => ?_)
  have hL6 : L = 6 := by
    match L, hL with
    | 0, _ => exact absurd (by decide) hc
    | 1, _ => exact absurd (by decide) hc
    | 2, _ => exact absurd (by decide) hc
    | 3, _ => exact absurd (by decide) hc
    | 4, _ => exact absurd (by decide) hc
    | 5, _ => exact absurd (by decide) hc
    | 6, _ => rfl
    | n + 7, h => exact absurd h (by omega)
  subst hL6
  have hC : lx_In p s m meth c b xs D ls := ⟨C0, hK, hNs, hl⟩
  refine lv_aload_n hx hb (lx_d lx_d0.2.2.2.1) rfl (lv_at hl 3 rfl) ?_
  refine lv_iload_n hx hb (lx_d lx_d0.2.2.2.2.1) rfl (lv_at hl 0 rfl) ?_
  refine va_sld hx hb hX hbl (Nat.not_le.mpr hbl) (lx_S hHp) (i := 0) (by unfold vp_in; decide) (lx_d lx_d0.2.2.2.2.2.1) ?_
  refine lv_bipush (v := 63) hx hb (lx_d lx_d0.2.2.2.2.2.2.1) rfl ?_
  refine lv_iand hx hb (lx_d lx_d0.2.2.2.2.2.2.2) ?_
  refine lv_topi (fun y hy => ?_)
  have hy0 : 0 ≤ y.toInt := by rw [hy]; exact lx_63 _
  by_cases h48 : 47 < y.toInt
  · exact lv_tableOut (tgt := 1522) hx hb (lx_d lx_sw) (Or.inr h48) (by decide) (lx_tail hC hHp)
  · have h1 := of_decide_eq_true (List.all_eq_true.mp lx_tgs y.toInt.toNat (List.mem_range.mpr (by omega)))
    obtain ⟨o, ho, e2⟩ := Option.map_eq_some_iff.mp h1
    refine lv_tableIn (off := o) (tgt := lx_tg.getD y.toInt.toNat 0) hx hb (lx_d lx_sw) (by omega) h48 (by rw [Int.sub_zero]; exact ho) e2 ?_
    exact lx_all hC hHp y.toInt.toNat (by omega)
