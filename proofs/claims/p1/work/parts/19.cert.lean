/-! certificates: pc, variables (the contract's first), locals, stack, fields, differences, measure: (0, _, c) a number, (1, x, b) what x is below b, (2, x, b) what x is above b -/
abbrev nhMs : Type := List (Nat × Nat × Int)
abbrev nhCe : Type := Nat × List nhV × List (Nat × Nat) × List Nat × List nhMm × List nhDf × nhMs
def nh_ceS (ce : nhCe) : nhS := (ce.2.1, ce.2.2.1, ce.2.2.2.1, ce.2.2.2.2.1, ce.2.2.2.2.2.1, [])
def nh_bind (σ : List Nat) (cv av : Nat) : Option (List Nat) := if cv = σ.length then some (σ ++ [av]) else if σ[cv]? = some av then some σ else none
theorem nh_bind_ok {σ σ' : List Nat} {cv av : Nat} (h : nh_bind σ cv av = some σ') : (∀ (i j : Nat), σ[i]? = some j → σ'[i]? = some j) ∧ σ'[cv]? = some av := by
  unfold nh_bind at h
  split at h
  · rename_i e
    cases h
    subst e
    exact ⟨fun i j hi => by rw [List.getElem?_append_left (List.getElem?_eq_some_iff.mp hi).1]; exact hi, by simp⟩
  · split at h
    · rename_i e
      cases h
      exact ⟨fun _ _ h => h, e⟩
    · cases h
def nh_bLo (lo : List (Nat × Nat)) : List (Nat × Nat) → List Nat → Option (List Nat)
  | [], σ => some σ
  | q :: r, σ => match nh_find lo q.1 with
    | some j => match nh_bind σ q.2 j with
      | some σ' => nh_bLo lo r σ'
      | none => none
    | none => none
theorem nh_bLo_ok {lo : List (Nat × Nat)} : ∀ {ql : List (Nat × Nat)} {σ σ' : List Nat}, nh_bLo lo ql σ = some σ' → (∀ (i j : Nat), σ[i]? = some j → σ'[i]? = some j) ∧ ∀ q ∈ ql, ∃ j, σ'[q.2]? = some j ∧ (q.1, j) ∈ lo
  | [], σ, σ', h => by cases h; exact ⟨fun _ _ h => h, fun q hq => by cases hq⟩
  | q :: r, σ, σ', h => by
    unfold nh_bLo at h
    split at h
    · rename_i j hj
      split at h
      · rename_i σ1 hσ
        obtain ⟨a1, a2⟩ := nh_bind_ok hσ
        obtain ⟨b1, b2⟩ := nh_bLo_ok h
        refine ⟨fun i j h => b1 i j (a1 i j h), fun w hw => ?_⟩
        rcases List.mem_cons.mp hw with rfl | hw
        · exact ⟨j, b1 _ _ a2, nh_find_ok hj⟩
        · exact b2 w hw
      · cases h
    · cases h
def nh_bSt : List Nat → List Nat → List Nat → Option (List Nat)
  | [], [], σ => some σ
  | c :: cs, j :: js, σ => match nh_bind σ c j with
    | some σ' => nh_bSt cs js σ'
    | none => none
  | _, _, _ => none
theorem nh_bSt_ok {ρ : List Value} : ∀ {cs js : List Nat} {σ σ' : List Nat} {st : List Value}, nh_bSt cs js σ = some σ' → nhSt ρ js st → (∀ (i j : Nat), σ[i]? = some j → σ'[i]? = some j) ∧ ∀ τ : List Nat, (∀ (i j : Nat), σ'[i]? = some j → τ[i]? = some j) → nhSt (nh_pick ρ τ) cs st
  | [], [], σ, σ', [], h, _ => by cases h; exact ⟨fun _ _ h => h, fun _ _ => trivial⟩
  | [], [], _, _, _ :: _, _, hs => hs.elim
  | c :: cs, j :: js, σ, σ', st, h, hs => by
    obtain ⟨x, xs, rfl, g1, g2⟩ := hs.inv1
    unfold nh_bSt at h
    split at h
    · rename_i σ1 hσ
      obtain ⟨a1, a2⟩ := nh_bind_ok hσ
      obtain ⟨b1, b2⟩ := nh_bSt_ok h g2
      exact ⟨fun i j h => b1 i j (a1 i j h), fun τ hτ => ⟨nh_pick_at (hτ _ _ (b1 _ _ a2)) g1, b2 τ hτ⟩⟩
    · cases h
  | [], _ :: _, _, _, _, h, _ => by cases h
  | _ :: _, [], _, _, _, h, _ => by cases h
def nh_bMe (me : List nhMm) : List nhMm → List Nat → Option (List Nat)
  | [], σ => some σ
  | q :: r, σ => match σ[q.2.2.1]? with
    | some o => match nh_mf me q.1 q.2.1 o with
      | some x => match nh_bind σ q.2.2.2 x with
        | some σ' => nh_bMe me r σ'
        | none => none
      | none => none
    | none => none
theorem nh_bMe_ok {D : nhD} {ρ : List Value} {H : Heap} {me : List nhMm} (hm : nhMe D ρ H me) : ∀ {ms : List nhMm} {σ σ' : List Nat}, nh_bMe me ms σ = some σ' → (∀ (i j : Nat), σ[i]? = some j → σ'[i]? = some j) ∧ nhMe D (nh_pick ρ σ') H ms
  | [], σ, σ', h => by cases h; exact ⟨fun _ _ h => h, fun q hq => by cases hq⟩
  | q :: r, σ, σ', h => by
    unfold nh_bMe at h
    split at h
    · rename_i o ho
      split at h
      · rename_i x hx
        split at h
        · rename_i σ1 hσ
          obtain ⟨a, v, cell, m1, m2, m3, m4⟩ := hm _ (nh_mf_ok hx)
          dsimp only at m1 m2 m4
          obtain ⟨a1, a2⟩ := nh_bind_ok hσ
          obtain ⟨b1, b2⟩ := nh_bMe_ok hm h
          refine ⟨fun i j h => b1 i j (a1 i j h), fun w hw => ?_⟩
          rcases List.mem_cons.mp hw with rfl | hw
          · exact ⟨a, v, cell, nh_pick_at (b1 _ _ (a1 _ _ ho)) m1, nh_pick_at (b1 _ _ a2) m2, m3, m4⟩
          · exact b2 w hw
        · cases h
      · cases h
    · cases h
def nh_dle (S : nhS) (w x : Nat) (c : Int) : Bool := (w == x && decide (0 ≤ c) && nh_isI S w) || S.2.2.2.2.1.any (fun q => q.1 == w && q.2.1 == x && decide (q.2.2 ≤ c)) || (match S.1[w]?, S.1[x]? with
  | some u, some v => (match nh_iv u, nh_iv v with
    | some a, some b => decide (a.2 ≤ b.1 + c)
    | _, _ => false)
  | _, _ => false)
theorem nh_dle_ok {E : nhE} {nL : Nat} {pu : Bool} {H0 : Heap} {S : nhS} {ρ : List Value} {H : Heap} {locs : List Loc} {ls : Array Slot} {st : List Value} {w x : Nat} {c : Int} (hR : nhR E nL pu H0 S ρ H locs ls st) (h : nh_dle S w x c = true) :
    ∃ a b : Int32, ρ[w]? = some (.int a) ∧ ρ[x]? = some (.int b) ∧ a.toInt ≤ b.toInt + c := by
  unfold nh_dle at h
  rw [Bool.or_eq_true, Bool.or_eq_true] at h
  rcases h with (h | h) | h
  · simp only [Bool.and_eq_true, beq_iff_eq, decide_eq_true_eq] at h
    obtain ⟨⟨rfl, h1⟩, h2⟩ := h
    have hx : ∃ x, ρ[w]? = some x := by
      unfold nh_isI at h2
      split at h2
      · rename_i v hv
        obtain ⟨x, g1, -⟩ := hR.1.2 _ v hv
        exact ⟨x, g1⟩
      · cases h2
    obtain ⟨x, hx⟩ := hx
    obtain ⟨a, rfl⟩ := nh_isI_ok hR h2 hx
    exact ⟨a, a, hx, hx, by omega⟩
  · obtain ⟨q, hq, h3⟩ := List.any_eq_true.mp h
    simp only [Bool.and_eq_true, beq_iff_eq, decide_eq_true_eq] at h3
    obtain ⟨⟨e1, e2⟩, e3⟩ := h3
    obtain ⟨a, b, g1, g2, g3⟩ := hR.2.2.2.2.1 q hq
    rw [e1] at g1
    rw [e2] at g2
    exact ⟨a, b, g1, g2, by omega⟩
  · split at h
    · rename_i u v hu hv
      split at h
      · rename_i a b ha hb
        obtain ⟨x1, g1, g2⟩ := hR.1.2 _ u hu
        obtain ⟨x2, g3, g4⟩ := hR.1.2 _ v hv
        obtain ⟨z, rfl, z1, z2⟩ := nh_iv_ok ha g2
        obtain ⟨y, rfl, y1, y2⟩ := nh_iv_ok hb g4
        have := of_decide_eq_true h
        exact ⟨z, y, g1, g3, by omega⟩
      · cases h
    · cases h
/-- a state enters a certificate -/
def nh_ent (np : Nat) (ce : nhCe) (S : nhS) : Option (List Nat) := match nh_bLo S.2.1 ce.2.2.1 (List.range np) with
  | some σ1 => match nh_bSt ce.2.2.2.1 S.2.2.1 σ1 with
    | some σ2 => match nh_bMe S.2.2.2.1 ce.2.2.2.2.1 σ2 with
      | some σ => if nh_fitV S.1 σ ce.2.1 = true ∧ np ≤ S.1.length ∧ ce.2.2.2.2.2.1.all (fun q => match σ[q.1]?, σ[q.2.1]? with
          | some w, some x => nh_dle S w x q.2.2
          | _, _ => false) = true then some σ else none
      | none => none
    | none => none
  | none => none
theorem nh_ent_ok {E : nhE} {nL : Nat} {pu : Bool} {H0 : Heap} {S : nhS} {ρ : List Value} {H : Heap} {locs : List Loc} {ls : Array Slot} {st : List Value} {np : Nat} {ce : nhCe} {σ : List Nat} (h : nh_ent np ce S = some σ) (hR : nhR E nL pu H0 S ρ H locs ls st) :
    nhR E nL pu H0 (nh_ceS ce) (nh_pick ρ σ) H locs ls st ∧ (∀ i, i < np → (nh_pick ρ σ)[i]? = ρ[i]?) ∧ ∀ (i j : Nat), σ[i]? = some j → ∃ x, ρ[j]? = some x ∧ (nh_pick ρ σ)[i]? = some x := by
  unfold nh_ent at h
  split at h
  · rename_i σ1 h1
    split at h
    · rename_i σ2 h2
      split at h
      · rename_i σ3 h3
        split at h
        · rename_i hc
          cases h
          obtain ⟨c1, c2, c3⟩ := hc
          obtain ⟨b1, ⟨b2, b2', b2''⟩, b3, b4, b5, b6, b7⟩ := hR
          have hR : nhR E nL pu H0 S ρ H locs ls st := ⟨b1, ⟨b2, b2', b2''⟩, b3, b4, b5, b6, b7⟩
          obtain ⟨l1, l2⟩ := nh_bLo_ok h1
          obtain ⟨s1, s2⟩ := nh_bSt_ok h2 b3
          obtain ⟨m1, m2⟩ := nh_bMe_ok b4 h3
          obtain ⟨f1, f2⟩ := nh_fitV_ok b1 c1
          have val : ∀ (i j : Nat), σ[i]? = some j → ∃ x, ρ[j]? = some x ∧ (nh_pick ρ σ)[i]? = some x := fun i j hi => by
            obtain ⟨x, hx⟩ := f2 j (List.mem_of_getElem? hi)
            exact ⟨x, hx, nh_pick_at hi hx⟩
          refine ⟨⟨f1, ⟨b2, b2', fun q hq => ?_⟩, s2 σ m1, m2, fun q hq => ?_, (fun q hq => by cases hq), b7⟩, fun i hi => ?_, val⟩
          · obtain ⟨j, g1, g2⟩ := l2 q hq
            obtain ⟨x, g3, g4⟩ := b2'' _ g2
            exact ⟨x, nh_pick_at (m1 _ _ (s1 _ _ g1)) g3, g4⟩
          · have h4 := List.all_eq_true.mp c3 q hq
            split at h4
            · rename_i w x hw hx
              obtain ⟨a, b, g1, g2, g3⟩ := nh_dle_ok hR h4
              exact ⟨a, b, nh_pick_at hw g1, nh_pick_at hx g2, g3⟩
            · cases h4
          · have hr : (List.range np)[i]? = some i := by simp [hi]
            have hσ := m1 _ _ (s1 _ _ (l1 _ _ hr))
            have hl : i < ρ.length := by rw [b1.1]; omega
            have hg := List.getElem?_eq_getElem hl
            rw [nh_pick_at hσ hg, hg]
        · cases h
      · cases h
    · cases h
  · cases h
/-! measures -/
def nh_mv (ρ : List Value) (q : Nat × Nat × Int) : Nat := match q.1 with
  | 0 => q.2.2.toNat
  | 1 => match ρ[q.2.1]? with
    | some (.int a) => (q.2.2 - a.toInt).toNat
    | _ => 0
  | _ => match ρ[q.2.1]? with
    | some (.int a) => (a.toInt - q.2.2).toNat
    | _ => 0
def nh_num (ρ : List Value) : nhMs → Nat
  | [] => 0
  | q :: r => nh_mv ρ q * 17179869184 ^ r.length + nh_num ρ r
def nh_bnd (ms : nhMs) : Bool := ms.all (fun q => decide (-4294967296 ≤ q.2.2) && decide (q.2.2 ≤ 4294967296))
theorem nh_mv_lt (ρ : List Value) {q : Nat × Nat × Int} (h1 : -4294967296 ≤ q.2.2) (h2 : q.2.2 ≤ 4294967296) : nh_mv ρ q < 17179869184 := by
  unfold nh_mv
  split
  · omega
  · split
    · rename_i a _
      have := fb_rng a
      omega
    · omega
  · split
    · rename_i a _
      have := fb_rng a
      omega
    · omega
theorem nh_num_lt (ρ : List Value) : ∀ {ms : nhMs}, nh_bnd ms = true → nh_num ρ ms < 17179869184 ^ ms.length
  | [], _ => by simp [nh_num]
  | q :: r, h => by
    unfold nh_bnd at h
    simp only [List.all_cons, Bool.and_eq_true, decide_eq_true_eq] at h
    have h1 := nh_mv_lt ρ (q := q) h.1.1 h.1.2
    have h2 := nh_num_lt ρ (ms := r) h.2
    simp only [nh_num, List.length_cons, Nat.pow_succ]
    have h3 : nh_mv ρ q * 17179869184 ^ r.length + 17179869184 ^ r.length ≤ 17179869184 ^ r.length * 17179869184 := by
      rw [← Nat.succ_mul, Nat.mul_comm]
      exact Nat.mul_le_mul_left _ (by omega)
    omega
def nh_dec (S : nhS) (q q' : Nat × Nat × Int) : Bool := match q.1, q'.1 with
  | 0, 0 => decide (q'.2.2 < q.2.2) && decide (0 ≤ q'.2.2)
  | 1, 1 => decide (q.2.2 = q'.2.2) && nh_dle S q.2.1 q'.2.1 (-1) && (match S.1[q.2.1]? with
    | some v => (match nh_iv v with
      | some z => decide (z.2 < q.2.2)
      | none => false)
    | none => false)
  | 2, 2 => decide (q.2.2 = q'.2.2) && nh_dle S q'.2.1 q.2.1 (-1) && (match S.1[q.2.1]? with
    | some v => (match nh_iv v with
      | some z => decide (q.2.2 < z.1)
      | none => false)
    | none => false)
  | _, _ => false
def nh_lex (S : nhS) : nhMs → nhMs → Bool
  | q :: r, q' :: r' => if q = q' then nh_lex S r r' else nh_dec S q q' && decide (r.length = r'.length)
  | _, _ => false
theorem nh_dec_ok {E : nhE} {nL : Nat} {pu : Bool} {H0 : Heap} {S : nhS} {ρ : List Value} {H : Heap} {locs : List Loc} {ls : Array Slot} {st : List Value} {q q' : Nat × Nat × Int} (hR : nhR E nL pu H0 S ρ H locs ls st) (h : nh_dec S q q' = true) : nh_mv ρ q' < nh_mv ρ q := by
  obtain ⟨t, v, b⟩ := q
  obtain ⟨t', v', b'⟩ := q'
  unfold nh_dec at h
  dsimp only at h
  split at h
  · simp only [Bool.and_eq_true, decide_eq_true_eq] at h
    simp only [nh_mv]
    omega
  · simp only [Bool.and_eq_true, decide_eq_true_eq] at h
    obtain ⟨⟨rfl, h1⟩, h2⟩ := h
    obtain ⟨a, a', g1, g2, g3⟩ := nh_dle_ok hR h1
    split at h2
    · rename_i w hw
      split at h2
      · rename_i z hz
        obtain ⟨x, k1, k2⟩ := hR.1.2 _ w hw
        rw [g1] at k1; cases k1
        obtain ⟨y, e, y1, y2⟩ := nh_iv_ok hz k2
        cases e
        have := of_decide_eq_true h2
        simp only [nh_mv, g1, g2]
        omega
      · cases h2
    · cases h2
  · simp only [Bool.and_eq_true, decide_eq_true_eq] at h
    obtain ⟨⟨rfl, h1⟩, h2⟩ := h
    obtain ⟨a, a', g1, g2, g3⟩ := nh_dle_ok hR h1
    split at h2
    · rename_i w hw
      split at h2
      · rename_i z hz
        obtain ⟨x, k1, k2⟩ := hR.1.2 _ w hw
        rw [g2] at k1; cases k1
        obtain ⟨y, e, y1, y2⟩ := nh_iv_ok hz k2
        cases e
        have := of_decide_eq_true h2
        simp only [nh_mv, g1, g2]
        omega
      · cases h2
    · cases h2
  · cases h
theorem nh_lex_ok {E : nhE} {nL : Nat} {pu : Bool} {H0 : Heap} {S : nhS} {ρ : List Value} {H : Heap} {locs : List Loc} {ls : Array Slot} {st : List Value} (hR : nhR E nL pu H0 S ρ H locs ls st) : ∀ {m m' : nhMs}, nh_lex S m m' = true → nh_bnd m' = true → nh_num ρ m' < nh_num ρ m
  | [], _, h, _ => by cases h
  | _ :: _, [], h, _ => by cases h
  | q :: r, q' :: r', h, hb => by
    unfold nh_bnd at hb
    simp only [List.all_cons, Bool.and_eq_true] at hb
    unfold nh_lex at h
    split at h
    · rename_i e
      subst e
      have h1 := nh_lex_ok hR h (m' := r') hb.2
      have hlen : ∀ {a b : nhMs}, nh_lex S a b = true → a.length = b.length := by
        intro a
        induction a with
        | nil => intro b h; cases h
        | cons x a ih =>
          intro b h
          cases b with
          | nil => cases h
          | cons y b =>
            unfold nh_lex at h
            split at h
            · simp [ih h]
            · rw [Bool.and_eq_true] at h
              simp [of_decide_eq_true h.2]
      simp only [nh_num]
      rw [hlen h]
      omega
    · rw [Bool.and_eq_true] at h
      have h1 := nh_dec_ok hR h.1
      have h2 := of_decide_eq_true h.2
      have h3 := nh_num_lt ρ (ms := r') hb.2
      simp only [nh_num]
      rw [h2]
      have h4 : nh_mv ρ q' * 17179869184 ^ r'.length + 17179869184 ^ r'.length ≤ nh_mv ρ q * 17179869184 ^ r'.length := by
        rw [← Nat.succ_mul]
        exact Nat.mul_le_mul_right _ (by omega)
      omega
