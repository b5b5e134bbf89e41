/-! the law from its entry -/
section LQS
variable {p : Program} {l : Launch} {e : Env} {s : State} {m : MethodId} {below : List Frame} {meth : Method} {c : Code} {b L X M h : Nat} {xs : Nat → Int32} {D : nhD}
theorem lq_loop (C0 : lw_At p s m meth c b L xs) (hL : L ≤ 3072) (hK : nhK D s) : ∀ (d i : Nat) (H : Heap) (locs : List Loc) (ls : Array Slot), L - i = d → i ≤ L → lv_has ls 4 [(3, .int (nI i)), (2, .ref M), (1, .ref X), (0, .ref b)] → lqW s D X M h H locs → W p l e room_1 s m #[Value.ref b] below meth c H locs 600000 7302250 (lw_Z below #[Value.ref b] s) (F0 m 18 ls []) := by
  intro d
  induction d using Nat.strongRecOn with
  | ind d ih =>
    intro i H locs ls hd hiL hl hW
    obtain ⟨hx, hb, hr, hml, hown, hts, hX, hbl, hlocks, hgv⟩ := id C0
    obtain ⟨t0, hJ⟩ := id hW
    have hS := hJ.S
    refine lv_iload_n hx hb (lx_d lx_d1522.2.2.1) rfl (lv_at hl 0 rfl) ?_
    refine lv_aload_n hx hb (lx_d lx_d1522.2.2.2.1) rfl (lv_at hl 3 rfl) ?_
    refine va_slen hx hb hX hbl (Nat.not_le.mpr hbl) hS (lx_d lx_d1522.2.2.2.2.1) ?_
    refine lv_bipush (v := 6) hx hb (lx_d lx_d1522.2.2.2.2.2.1) rfl ?_
    refine lv_isub hx hb (lx_d lx_d1522.2.2.2.2.2.2.1) ?_
    have eL : (nI L).toInt = (L : Int) := nI_toInt (by omega)
    have ei : (nI i).toInt = (i : Int) := nI_toInt (by omega)
    have q6 : (6 : Int32).toInt = 6 := rfl
    have e6 : (nI L - 6).toInt = (L : Int) - 6 := by rw [fb_subI (by rw [eL, q6]; omega) (by rw [eL, q6]; omega), eL, q6]
    refine lv_icmp_gt (x := nI i) (y := nI L - 6) (tgt := 1528) hx hb (lx_d lx_d1522.2.2.2.2.2.2.2.1) (by decide) (fun _ => lx_end C0 hS.2.2) (fun hc => ?_)
    have hi6 : i + 6 ≤ L := by
      have h1 : ¬ (nI L - 6).toInt < (nI i).toInt := fun q => hc (Int32.lt_iff_toInt_lt.mpr q)
      omega
    have hC : lx_In p s m meth c b L xs D X M i ls := ⟨C0, hL, hi6, hK, hl⟩
    refine lv_aload_n hx hb (lx_d lx_d0.2.2.2.1) rfl (lv_at hl 3 rfl) ?_
    refine lv_iload_n hx hb (lx_d lx_d0.2.2.2.2.1) rfl (lv_at hl 0 rfl) ?_
    refine va_sld hx hb hX hbl (Nat.not_le.mpr hbl) hS (i := nI i) (nI_in (by omega) (by omega)) (lx_d lx_d0.2.2.2.2.2.1) ?_
    refine lv_bipush (v := 63) hx hb (lx_d lx_d0.2.2.2.2.2.2.1) rfl ?_
    refine lv_iand hx hb (lx_d lx_d0.2.2.2.2.2.2.2) ?_
    refine lv_topi (fun y hy => ?_)
    have hy0 : 0 ≤ y.toInt := by rw [hy]; exact lx_63 _
    have tail : ∀ (H1 : Heap) (locs1 : List Loc), lqW s D X M h H1 locs1 → W p l e room_1 s m #[Value.ref b] below meth c H1 locs1 600000 7302250 (lw_Z below #[Value.ref b] s) (F0 m 1522 ls []) := fun H1 locs1 hW1 => by
      refine lv_iinc (v := nI (i + 6)) (lv' := [(3, .int (nI (i + 6))), (2, .ref M), (1, .ref X), (0, .ref b)]) hx hb (lx_d lx_d1522.1) hl (k := 0) rfl (by rw [show Int32.ofInt 6 = nI 6 by decide, nI_add]) (by decide) rfl (fun ls1 hl1 => ?_)
      refine lv_goto (tgt := 18) hx hb (lx_d lx_d1522.2.1) (by decide) ?_
      exact ih (L - (i + 6)) (by omega) (i + 6) H1 locs1 ls1 rfl hi6 hl1 hW1
    by_cases h48 : 47 < y.toInt
    · exact lv_tableOut (tgt := 1522) hx hb (lx_d lx_sw) (Or.inr h48) (by decide) (tail H locs hW)
    · have h1 := of_decide_eq_true (List.all_eq_true.mp lx_tgs y.toInt.toNat (List.mem_range.mpr (by omega)))
      obtain ⟨o, ho, e2⟩ := Option.map_eq_some_iff.mp h1
      refine lv_tableIn (off := o) (tgt := lx_tg.getD y.toInt.toNat 0) hx hb (lx_d lx_sw) (by omega) h48 (by rw [Int.sub_zero]; exact ho) e2 ?_
      exact lq_cases hC hW y.toInt.toNat (by omega) tail
theorem lq_begin (hts : ∀ w ∈ lw_tbl, w.before #[Value.ref b] s = true) (hgv : (Jvm.Cond.and given_1 narrow_1).before #[Value.ref b] s = true) {ρ : Nat → Int32} {H : Heap} {locs : List Loc} (hH : ceH D ρ s.heap.size s.heap cw3 H) (hloc : ∀ q ∈ locs, s.heap.size ≤ q.base) : lqW s D (s.heap.size + 0) (s.heap.size + 281) (s.heap.size + 31) H locs := by
  obtain ⟨adK, adV, h1, h2, h3, h4⟩ := lq_texts hts hgv
  have k0 : adK 0 < s.heap.size := by
    obtain ⟨cell, q1, -⟩ := (h1.1 0 (by decide)).1
    exact (Array.getElem?_eq_some_iff.mp q1).1
  have k1 : adK 1 < s.heap.size := by
    obtain ⟨cell, q1, -⟩ := (h1.1 1 (by decide)).1
    exact (Array.getElem?_eq_some_iff.mp q1).1
  have f0 := lq_f0
  have z0 : Int32.ofInt 0 = nI 0 := by decide
  have gr : ∀ {i f : Nat}, lq_fB lqKr nkKdL i f (0, 0) = true → nkFd (D, nkKdL, lqGam lqKr s.heap.size (adK 0) (adK 1)) H (s.heap.size + i) f (.int (nI 0)) := fun {i f} hB => by
    have := lq_fd k0 k1 hH hB
    rw [← z0]
    exact this
  have gm : ∀ {i f : Nat}, lq_fB lqKm nkKds i f (0, 0) = true → nkFd (D, nkKds, lqGam lqKm s.heap.size (adK 0) (adK 1)) H (s.heap.size + i) f (.int (nI 0)) := fun {i f} hB => by
    have := lq_fd k0 k1 hH hB
    rw [← z0]
    exact this
  refine ⟨nI 0, ⟨by rw [hH.1]; omega, fun q hq => hH.2.1 q hq, hloc⟩, ⟨lqGam lqKr s.heap.size (adK 0) (adK 1), fun a ha => lq_rgr ha, Or.inr ⟨lq_Z h1 h2 h3 h4 rfl (fun i => (lqK_le i).1), fun a => lq_no k0 k1 a, lq_nkHr k0 k1 hH, ⟨?_, ?_⟩, lq_fd k0 k1 hH f0.1, ⟨0, 0, gr f0.2.1, gr f0.2.2.1, by decide⟩, gr f0.2.2.2.2.2.1⟩⟩, lqGam lqKm s.heap.size (adK 0) (adK 1), 40, fun a ha => lq_rgm ha, Or.inl ⟨rfl, lq_pu⟩, lq_Z h1 h2 h3 h4 rfl (fun i => (lqK_le i).2), lq_nkHm k0 k1 hH, ?_, ⟨0, 0, gm f0.2.2.2.1, gm f0.2.2.2.2.1, by decide⟩, gm f0.2.2.2.2.2.2⟩
  · rw [lqGam_at k0 k1]
    exact lq_k0.1
  · rw [lqGam_at k0 k1]
    exact lq_k0.2.1
  · rw [lqGam_at k0 k1]
    exact lq_k0.2.2
end LQS
set_option maxHeartbeats 4000000 in
/-- from the entry, for every script of at most 3072 ints, the law comes to its end with true -/
theorem whole_start {p : Program} {e : Env} {s : State} {m : MethodId} {below : List Frame} {meth : Method} {c : Code} (l : Launch) (hflags : l.flags = flags0) {b L : Nat} {xs : Nat → Int32} (hL : L ≤ 3072) (C0 : lw_At p s m meth c b L xs) : W p l e room_1 s m #[Value.ref b] below meth c s.heap [] 0 0 (lw_Z below #[Value.ref b] s) (entryFrame m ([Value.ref b] : List Value).toArray 4) := by
  obtain ⟨hx, hb, hr, hml, hown, hts0, hX, hbl, hlocks, hgv⟩ := id C0
  have hts : ∀ w ∈ nhTb, w.before #[Value.ref b] s = true := fun w hw => hts0 w (List.mem_filter.mp hw).1
  have hNs : ceNs s := lx_ns hts0
  obtain ⟨D, hK⟩ := lx_known hts hNs.2
  have hF : nhFx p c s m #[Value.ref b] code 4 20 D := ⟨hx, hb, hml, ⟨"NightHousesLaw", rfl, hown⟩, hts, hK⟩
  have hl := lv_entry ([.ref b]) (n := 4) (Nat.le_of_ble_eq_true rfl)
  rw [lg_entry_eq]
  generalize (lg_sl ([.ref b]) ++ List.replicate (4 - (lg_sl ([.ref b])).length) Slot.unset).toArray = ls at hl ⊢
  have hl : lv_has ls 4 [(0, .ref b)] := hl
  have hH0 : ceH D (fun k => xs (k + 1)) s.heap.size s.heap (0, []) s.heap := ⟨rfl, fun _ _ => rfl, fun i c h => by simp [ce_get] at h⟩
  refine lx_new hF hH0 lx_n7.1 rfl lx_o0 lx_f11 (lx_d lx_d0.1.1) (Nat.le_of_ble_eq_true rfl) (Nat.le_of_ble_eq_true rfl) (fun H hH => ?_)
  have hH : ceH D (fun k => xs (k + 1)) s.heap.size s.heap cw0 H := by rw [← lx_w0]; exact hH
  refine lv_dup hx hb (lx_d lx_d0.1.2.1) rfl ?_
  obtain ⟨y0, a1, a2, a3, a4, a5⟩ := lx_y0
  refine lx_ctor (o := 0) hF hNs hl.1 hH (fun q hq => by cases hq) a1 a2 a3 a4 a5 (lx_d lx_d0.1.2.2.1) ⟨Nat.le_of_ble_eq_true rfl, Nat.le_of_ble_eq_true rfl⟩ (Nat.le_of_ble_eq_true rfl) (Nat.le_of_ble_eq_true rfl) (Nat.le_of_ble_eq_true rfl) (fun H1 locs1 hH1 hloc1 => ?_)
  refine lv_astore_n (x := s.heap.size + 0) (lv' := [(1, .ref (s.heap.size + 0)), (0, .ref b)]) hx hb (lx_d lx_d0.1.2.2.2) rfl hl (by decide) rfl (fun ls hl => ?_)
  refine lx_new hF hH1 lx_n7.2 rfl lx_o1 lx_f12 (lx_d lx_d0.2.1.1) (Nat.le_of_ble_eq_true rfl) (Nat.le_of_ble_eq_true rfl) (fun H2 hH2 => ?_)
  have hH2 : ceH D (fun k => xs (k + 1)) s.heap.size s.heap cw2 H2 := by rw [← lx_w2]; exact hH2
  rw [lx_l1]
  refine lv_dup hx hb (lx_d lx_d0.2.1.2.1) rfl ?_
  obtain ⟨y1, b1, b2, b3, b4, b5⟩ := lx_y11
  refine lx_ctor (o := 281) hF hNs hl.1 hH2 hloc1 b1 b2 b3 b4 b5 (lx_d lx_d0.2.1.2.2.1) ⟨Nat.le_of_ble_eq_true rfl, Nat.le_of_ble_eq_true rfl⟩ (Nat.le_of_ble_eq_true rfl) (Nat.le_of_ble_eq_true rfl) (Nat.le_of_ble_eq_true rfl) (fun H3 locs3 hH3 hloc3 => ?_)
  refine W.widen (k := 600000) (n := 7302250) (Nat.le_of_ble_eq_true rfl) (Nat.le_of_ble_eq_true rfl) ?_
  refine lv_astore_n (x := s.heap.size + 281) (lv' := [(2, .ref (s.heap.size + 281)), (1, .ref (s.heap.size + 0)), (0, .ref b)]) hx hb (lx_d lx_d0.2.1.2.2.2) rfl hl (by decide) rfl (fun ls hl => ?_)
  refine lv_iconst (v := nI 0) hx hb (lx_d lx_d0.2.2.1.1) (by decide) ?_
  refine lv_istore_n (lv' := [(3, .int (nI 0)), (2, .ref (s.heap.size + 281)), (1, .ref (s.heap.size + 0)), (0, .ref b)]) hx hb (lx_d lx_d0.2.2.1.2) rfl hl (by decide) rfl (fun ls hl => ?_)
  exact lq_loop C0 hL hK _ 0 H3 locs3 ls rfl (Nat.zero_le _) hl (lq_begin hts0 hgv hH3 hloc3)
