/-! floorMod by 5, walked: it answers nh_fm5 of the first, and no cell changes -/
def nh_fmY : MethodName := ⟨"java/lang/Math", "floorMod", "(II)I"⟩
theorem nh_fmD : (decode prog_18_method_50_code 0 = .ok (.iload_n 0, 1) ∧ decode prog_18_method_50_code 1 = .ok (.iload_n 1, 1) ∧ decode prog_18_method_50_code 2 = .ok (.irem, 1) ∧ decode prog_18_method_50_code 3 = .ok (.istore_n 2, 1)) ∧ (decode prog_18_method_50_code 4 = .ok (.iload_n 0, 1) ∧ decode prog_18_method_50_code 5 = .ok (.iload_n 1, 1) ∧ decode prog_18_method_50_code 6 = .ok (.ixor, 1) ∧ decode prog_18_method_50_code 7 = .ok (.ifCond .ge 11, 3)) ∧ (decode prog_18_method_50_code 10 = .ok (.iload_n 2, 1) ∧ decode prog_18_method_50_code 11 = .ok (.ifCond .eq 7, 3) ∧ decode prog_18_method_50_code 14 = .ok (.iload_n 2, 1) ∧ decode prog_18_method_50_code 15 = .ok (.iload_n 1, 1) ∧ decode prog_18_method_50_code 16 = .ok (.iadd, 1) ∧ decode prog_18_method_50_code 17 = .ok (.ireturn, 1)) ∧ (decode prog_18_method_50_code 18 = .ok (.iload_n 2, 1) ∧ decode prog_18_method_50_code 19 = .ok (.ireturn, 1)) := by decide +kernel
theorem nh_fmM (l : Launch) (ws' : List Cond) (a : Int32) (fr : Addr → Prop) : Met l nh_fmY (Cond.code nh_fmY prog_18_method_50_code 3 (some .int) :: ws') { frames := 0, cells := 0, slots := 0, locals := 0 } (fun b _ => b = #[.int a, .int 5]) (fun _ st o t => o = .returned (some (.int (nh_fm5 a))) ∧ t.heap = st.heap) 0 0 fr := by
  refine nh_ofWF (cc := prog_18_method_50_code) (maxL := 3) (ret := some .int) nh_fmodP rfl ?_
  intro p e s m args below meth c s₁ Bd hml hv
  subst hv
  have hx := Bd.exec
  have hb := Bd.bytes
  have hr := Bd.returns
  have hl := lv_entry ([.int a, .int 5]) (n := 3) (Nat.le_of_ble_eq_true rfl)
  show W p l e _ s m _ below meth c s.heap [] 0 0 _ (entryFrame m ([.int a, .int 5] : List Value).toArray 3)
  rw [lg_entry_eq]
  generalize (lg_sl ([.int a, .int 5]) ++ List.replicate (3 - (lg_sl ([.int a, .int 5])).length) Slot.unset).toArray = ls at hl ⊢
  have hl : lv_has ls 3 [(0, .int a), (1, .int 5)] := hl
  have fin : ∀ (r : Int32), r = nh_fm5 a → ∀ (t : State), t.heap = s.heap → (Outcome.returned (some (.int r)) = .returned (some (.int (nh_fm5 a))) ∧ t.heap = s.heap) := fun r e t ht => ⟨by rw [e], ht⟩
  refine lv_iload_n hx hb nh_fmD.1.1 rfl (lv_at hl 0 rfl) ?_
  refine lv_iload_n hx hb nh_fmD.1.2.1 rfl (lv_at hl 1 rfl) ?_
  refine nh_bW (r := a - a / 5 * 5) hx hb rfl nh_fmD.1.2.2.1 ?_
  refine lv_istore_n (lv' := [(2, .int (a - a / 5 * 5)), (0, .int a), (1, .int 5)]) hx hb nh_fmD.1.2.2.2 rfl hl (by decide) rfl (fun ls hl => ?_)
  refine lv_iload_n hx hb nh_fmD.2.1.1 rfl (lv_at hl 1 rfl) ?_
  refine lv_iload_n hx hb nh_fmD.2.1.2.1 rfl (lv_at hl 2 rfl) ?_
  refine lv_ixor hx hb nh_fmD.2.1.2.2.1 ?_
  refine nh_ifW (t := 18) hx hb nh_fmD.2.1.2.2.2 (by decide) (fun hc => ?_) (fun hc => ?_)
  · have h1 : 0 ≤ (a ^^^ 5) := Int32.le_iff_toInt_le.mpr (by simpa [nh_cr] using hc)
    refine lv_iload_n hx hb nh_fmD.2.2.2.1 rfl (lv_at hl 0 rfl) ?_
    exact W.iret hx hb hr (fun t ht _ => fin _ (by unfold nh_fm5; rw [if_pos h1]) t ht) (fun q hq => by cases hq) nh_fmD.2.2.2.2
  · have h1 : ¬ 0 ≤ (a ^^^ 5) := fun q => by
      have h2 := Int32.le_iff_toInt_le.mp q
      have h3 : ¬ (0 ≤ (a ^^^ 5).toInt) := by simpa [nh_cr] using hc
      exact h3 h2
    refine lv_iload_n hx hb nh_fmD.2.2.1.1 rfl (lv_at hl 0 rfl) ?_
    refine nh_ifW (t := 18) hx hb nh_fmD.2.2.1.2.1 (by decide) (fun hc2 => ?_) (fun hc2 => ?_)
    · have h2 : a - a / 5 * 5 = 0 := Int32.toInt_inj.mp (by simpa [nh_cr] using hc2)
      refine lv_iload_n hx hb nh_fmD.2.2.2.1 rfl (lv_at hl 0 rfl) ?_
      exact W.iret hx hb hr (fun t ht _ => fin _ (by unfold nh_fm5; rw [if_neg h1, if_pos h2]) t ht) (fun q hq => by cases hq) nh_fmD.2.2.2.2
    · have h2 : ¬ a - a / 5 * 5 = 0 := fun q => by
        have h3 : ¬ (a - a / 5 * 5).toInt = 0 := by simpa [nh_cr] using hc2
        exact h3 (by rw [q]; rfl)
      refine lv_iload_n hx hb nh_fmD.2.2.1.2.2.1 rfl (lv_at hl 0 rfl) ?_
      refine lv_iload_n hx hb nh_fmD.2.2.1.2.2.2.1 rfl (lv_at hl 2 rfl) ?_
      refine lv_iadd hx hb nh_fmD.2.2.1.2.2.2.2.1 ?_
      exact W.iret hx hb hr (fun t ht _ => fin _ (by unfold nh_fm5; rw [if_neg h1, if_neg h2]) t ht) (fun q hq => by cases hq) nh_fmD.2.2.1.2.2.2.2.2
