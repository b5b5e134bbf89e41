/-! returns -/
def nh_refB (S : nhS) (r : Nat) (q : Bool × Nat × Int × Int) : Bool :=
  (match S.1[q.2.1]? with
    | some v => nh_le v (0, q.2.2.1, q.2.2.2)
    | none => false) ||
  (nh_isI S q.2.1 && ((match S.1[r]? with
    | some v => (match nh_iv v with
      | some z => if q.1 = true then decide (z.1 = 0) && decide (z.2 = 0) else decide (0 < z.1) || decide (z.2 < 0)
      | none => false)
    | none => false) || S.2.2.2.2.2.any (fun k => k.1 == r && k.2.1 == q.1 && k.2.2.1 == q.2.1 && decide (q.2.2.1 ≤ k.2.2.2.1) && decide (k.2.2.2.2 ≤ q.2.2.2))))
theorem nh_refB_ok {E : nhE} {nL : Nat} {pu : Bool} {H0 : Heap} {S : nhS} {ρ : List Value} {H : Heap} {locs : List Loc} {ls : Array Slot} {st : List Value} {r : Nat} {q : Bool × Nat × Int × Int} {z : Int32} (hR : nhR E nL pu H0 S ρ H locs ls st) (hr : ρ[r]? = some (.int z)) (h : nh_refB S r q = true) :
    ∃ x : Int32, ρ[q.2.1]? = some (.int x) ∧ (decide (z ≠ 0) = q.1 → q.2.2.1 ≤ x.toInt ∧ x.toInt ≤ q.2.2.2) := by
  have z0 : z = 0 ↔ z.toInt = 0 := by rw [← Int32.toInt_inj]; rfl
  unfold nh_refB at h
  rw [Bool.or_eq_true] at h
  rcases h with h | h
  · split at h
    · rename_i v hv
      obtain ⟨x, g1, g2⟩ := hR.1.2 _ v hv
      obtain ⟨a, rfl, a1, a2⟩ := nh_le_ok h g2
      exact ⟨a, g1, fun _ => ⟨a1, a2⟩⟩
    · cases h
  · rw [Bool.and_eq_true] at h
    obtain ⟨h1, h2⟩ := h
    have hx : ∃ x, ρ[q.2.1]? = some x := by
      unfold nh_isI at h1
      split at h1
      · rename_i v hv
        obtain ⟨x, g1, -⟩ := hR.1.2 _ v hv
        exact ⟨x, g1⟩
      · cases h1
    obtain ⟨x, hx⟩ := hx
    obtain ⟨a, rfl⟩ := nh_isI_ok hR h1 hx
    refine ⟨a, hx, fun hz => ?_⟩
    rw [Bool.or_eq_true] at h2
    rcases h2 with h2 | h2
    · exfalso
      split at h2
      · rename_i v hv
        split at h2
        · rename_i iv hiv
          obtain ⟨x', g1, g2⟩ := hR.1.2 _ v hv
          rw [hr] at g1; cases g1
          obtain ⟨b, e, b1, b2⟩ := nh_iv_ok hiv g2
          cases e
          split at h2
          · rename_i hq
            simp only [Bool.and_eq_true, decide_eq_true_eq] at h2
            rw [hq] at hz
            have := of_decide_eq_true hz
            exact this (z0.mpr (by omega))
          · rename_i hq
            simp only [Bool.or_eq_true, decide_eq_true_eq] at h2
            have hq' : q.1 = false := by simpa using hq
            rw [hq'] at hz
            have := of_decide_eq_false hz
            have : z = 0 := by simpa using this
            have := z0.mp this
            omega
        · cases h2
      · cases h2
    · obtain ⟨k, hk, h3⟩ := List.any_eq_true.mp h2
      simp only [Bool.and_eq_true, beq_iff_eq, decide_eq_true_eq] at h3
      obtain ⟨⟨⟨⟨e1, e2⟩, e3⟩, e4⟩, e5⟩ := h3
      obtain ⟨r', a', g1, g2, g3⟩ := hR.2.2.2.2.2.1 k hk
      rw [e1, hr] at g1; cases g1
      rw [e3, hx] at g2; cases g2
      have := g3 (by rw [hz, e2])
      omega
def nh_pmB (S : nhS) (q : Nat × Nat × Nat × nhV) : Bool := match nh_mf S.2.2.2.1 q.1 q.2.1 q.2.2.1 with
  | some x => match S.1[x]? with
    | some v => nh_le v q.2.2.2
    | none => false
  | none => false
def nh_rtB (ty : FieldType) (v : nhV) (i : Instr) : Bool := match i with
  | .ireturn => match ty with
    | .int => nh_cat v == 0
    | .boolean => nh_le v (0, 0, 1)
    | _ => false
  | .lreturn => match ty with
    | .long => nh_cat v == 1
    | _ => false
  | .areturn => match ty with
    | .object _ => nh_cat v == 2
    | .array _ => nh_cat v == 2
    | _ => false
  | _ => false
def nh_sRet (rt : Option FieldType) (ct : nhCtr) (S : nhS) (i : Instr) (len : Nat) : Bool := decide (len = 1) && ct.2.2.2.2.2.1.all (nh_pmB S) && (match S.2.2.1 with
  | [] => decide (i = .return_) && decide (rt = none) && decide (ct.2.2.2.1 = none) && ct.2.2.2.2.1.isEmpty
  | [r] => match S.1[r]?, rt, ct.2.2.2.1 with
    | some v, some ty, some w => nh_le v w && nh_rtB ty v i && (ct.2.2.2.2.1.isEmpty || (nh_isI S r && ct.2.2.2.2.1.all (nh_refB S r)))
    | _, _, _ => false
  | _ => false)
section NH18
variable {p : Program} {l : Launch} {e : Env} {R : Room} {s : State} {m : MethodId} {args : Array Value} {below : List Frame} {meth : Method} {c : Code}
variable {cc : ByteArray} {E : nhE} {nL : Nat} {pc own : Nat} {S : nhS} {ρ0 ρp : List Value}
theorem nh_sRet_ok (hx : p.tables.exec = Jvm.exec) (hb : c.code = cc) {rt : Option FieldType} (hr : meth.sig.returnType = rt) (hlocks : meth.locks = false) {ct : nhCtr} (hp : nhX ρp ρ0) (hl : ∀ q ∈ ct.2.2.2.2.1, q.2.1 < ρp.length) (hl2 : ∀ q ∈ ct.2.2.2.2.2.1, q.2.2.1 < ρp.length) {i : Instr} {len : Nat} (hd : decode cc pc = .ok (i, len)) (h : nh_sRet rt ct S i len = true) :
    nhGo p l e R s m args below meth c (MQ below (nhQc E ct ρp) args s 0 0 (fun a => 0 ≤ E.2.2.1 a)) E nL ct.2.2.2.2.2.2 pc S ρ0 := by
  intro ρ H locs ls st hρ hR
  have hX : nhX ρp ρ := hp.tr hρ
  have back : ∀ {n : Nat} {x : Value}, n < ρp.length → ρ[n]? = some x → ρp[n]? = some x := fun hn hx => by
    have h1 := List.getElem?_eq_getElem hn
    have h2 := hX _ _ h1
    rw [hx] at h2
    rw [h1, h2]
  unfold nh_sRet at h
  rw [Bool.and_eq_true, Bool.and_eq_true] at h
  obtain ⟨⟨h1, h2⟩, h3⟩ := h
  have h1 := of_decide_eq_true h1
  subst h1
  have hpm : ∀ q ∈ ct.2.2.2.2.2.1, ∃ (a : Nat) (x : Value) (cell : Cell), ρp[q.2.2.1]? = some (.ref a) ∧ H[a]? = some cell ∧ cell.slots[E.1.2.1 q.1 q.2.1]? = some x ∧ nhOk E.2.2.1 E.2.2.2 q.2.2.2 x := by
    intro q hq
    have h4 := List.all_eq_true.mp h2 q hq
    unfold nh_pmB at h4
    split at h4
    · rename_i x hm
      split at h4
      · rename_i v hv
        obtain ⟨a, y, cell, m1, m2, m3, m4⟩ := hR.2.2.2.1 _ (nh_mf_ok hm)
        obtain ⟨y', g1, g2⟩ := hR.1.2 x v hv
        dsimp only at m1 m2 m4
        rw [m2] at g1; cases g1
        exact ⟨a, y, cell, back (hl2 q hq) m1, m3, m4, nh_le_ok h4 g2⟩
      · cases h4
    · cases h4
  obtain ⟨b1, b2, b3, b4, b5, b6, b7, b8, b9, b10, b11⟩ := hR
  have hR : nhR E nL ct.2.2.2.2.2.2 s.heap S ρ H locs ls st := ⟨b1, b2, b3, b4, b5, b6, b7, b8, b9, b10, b11⟩
  have fin : ∀ (v : Option Value) (t : State), t.heap = H → nhRet E.2.2.1 E.2.2.2 ct.2.2.2.1 v → (∀ q ∈ ct.2.2.2.2.1, ∃ r x : Int32, v = some (.int r) ∧ ρp[q.2.1]? = some (.int x) ∧ (decide (r ≠ 0) = q.1 → q.2.2.1 ≤ x.toInt ∧ x.toInt ≤ q.2.2.2)) → nhQc E ct ρp args s (.returned v) t := fun v t ht hv hq =>
    ⟨⟨v, rfl, hv, hq, by rw [ht]; exact hpm⟩, by rw [ht]; exact b7, by rw [ht]; exact b8, fun q hq => by rw [ht]; exact b9 q hq, fun hq => by rw [ht]; exact b11 hq⟩
  split at h3
  · rename_i hst
    rw [hst] at b3
    simp only [Bool.and_eq_true, decide_eq_true_eq, List.isEmpty_iff] at h3
    obtain ⟨⟨⟨rfl, h4⟩, h5⟩, h6⟩ := h3
    cases st with
    | cons x xs => exact b3.elim
    | nil =>
      exact W.vret hx hb (by rw [hr, h4]) (fun t ht _ => fin none t ht (by rw [h5]; trivial) (by rw [h6]; exact fun q hq => by cases hq)) b10 hd
  · rename_i r hst
    rw [hst] at b3
    obtain ⟨x, xs, rfl, hx1, hs1⟩ := b3.inv1
    cases xs with
    | cons y ys => exact hs1.elim
    | nil =>
      split at h3
      · rename_i v ty w hv hw
        rw [Bool.and_eq_true, Bool.and_eq_true] at h3
        obtain ⟨⟨h4, h5⟩, h6⟩ := h3
        obtain ⟨x', g1, g2⟩ := b1.2 r v hv
        rw [hx1] at g1; cases g1
        have hret : nhRet E.2.2.1 E.2.2.2 ct.2.2.2.1 (some x) := by rw [hw]; exact nh_le_ok h4 g2
        have hrefs : ∀ q ∈ ct.2.2.2.2.1, ∃ r x' : Int32, some x = some (.int r) ∧ ρp[q.2.1]? = some (.int x') ∧ (decide (r ≠ 0) = q.1 → q.2.2.1 ≤ x'.toInt ∧ x'.toInt ≤ q.2.2.2) := by
          intro q hq
          rw [Bool.or_eq_true] at h6
          rcases h6 with h6 | h6
          · rw [List.isEmpty_iff.mp h6] at hq; cases hq
          · rw [Bool.and_eq_true] at h6
            obtain ⟨z, rfl⟩ := nh_isI_ok hR h6.1 hx1
            obtain ⟨y, y1, y2⟩ := nh_refB_ok hR hx1 (List.all_eq_true.mp h6.2 q hq)
            exact ⟨z, y, rfl, back (hl q hq) y1, y2⟩
        have hc := nh_cat_ok g2
        unfold nh_rtB at h5
        split at h5
        · split at h5
          · obtain ⟨a, rfl⟩ := hc.1 (by simpa using h5)
            exact W.iret hx hb hr (fun t ht _ => fin _ t ht hret hrefs) b10 hd
          · obtain ⟨hn, -⟩ := nh_fit_ok (ty := .boolean) h5 g2
            obtain ⟨a, rfl, -⟩ := nh_le_ok h5 g2
            exact W.zret hx hb hr hn (fun t ht _ => fin _ t ht hret hrefs) b10 hd
          · cases h5
        · split at h5
          · obtain ⟨a, rfl⟩ := hc.2.1 (by simpa using h5)
            exact W.lret hx hb hr (fun t ht _ => fin _ t ht hret hrefs) b10 hd
          · cases h5
        · split at h5
          · exact W.aret hx hb hr (Or.inl ⟨_, rfl⟩) (hc.2.2 (by simpa using h5)) (fun t ht _ => fin _ t ht hret hrefs) b10 hd
          · exact W.aret hx hb hr (Or.inr ⟨_, rfl⟩) (hc.2.2 (by simpa using h5)) (fun t ht _ => fin _ t ht hret hrefs) b10 hd
          · cases h5
        · cases h5
      · cases h3
  · cases h3
end NH18
