/-! one call of the class and one of the reference over boxes of arguments; the boxes as a tree in a row: (k, c) cuts the k-th at c, (9, _) is a leaf -/
def ce_enc (lo hi : Int) : Int := lo * 4294967296 + (hi + 2147483648)
def ce_bv (k : Nat) (b : Int × Int) : ceV := if b.1 = b.2 then (0, b.1) else (4 + k, ce_enc b.1 b.2)
def ce_bx : Nat → List (Int × Int) → List ceV
  | _, [] => []
  | k, b :: r => ce_bv k b :: ce_bx (k + 1) r
def ce_bok (b : Int × Int) : Bool := decide (b.2 < 2147483648)
def ce_tree (f : List ceV → Bool) : Nat → List (Nat × Int) → List (Int × Int) → Option (List (Nat × Int))
  | 0, _, _ => none
  | _ + 1, [], _ => none
  | n + 1, q :: t, bx => if Nat.beq q.1 9 = true then (if f (ce_bx 0 bx) && bx.all ce_bok then some t else none) else (match bx[q.1]? with
    | some b => (match ce_tree f n t (bx.set q.1 (b.1, q.2 - 1)) with
      | some t' => ce_tree f n t' (bx.set q.1 (q.2, b.2))
      | none => none)
    | none => none)
def ceIn (ρ : Nat → Int32) (j : Nat) (bx : List (Int × Int)) : Prop := ∀ (k : Nat) (b : Int × Int), bx[k]? = some b → b.1 ≤ (ρ (j + k)).toInt ∧ (ρ (j + k)).toInt ≤ b.2
theorem ceIn.set {ρ : Nat → Int32} {j : Nat} {bx : List (Int × Int)} (h : ceIn ρ j bx) {k : Nat} {b : Int × Int} (hb : b.1 ≤ (ρ (j + k)).toInt ∧ (ρ (j + k)).toInt ≤ b.2) : ceIn ρ j (bx.set k b) := by
  intro i c hc
  by_cases e : k = i
  · subst e
    have hl : k < bx.length := by
      have := (List.getElem?_eq_some_iff.mp hc).1
      rwa [List.length_set] at this
    rw [List.getElem?_set_self hl] at hc
    cases hc
    exact hb
  · rw [List.getElem?_set_ne e] at hc
    exact h i c hc
theorem ce_tree_ok {f : List ceV → Bool} {ρ : Nat → Int32} : ∀ (n : Nat) (t : List (Nat × Int)) (bx : List (Int × Int)) (r : List (Nat × Int)), ce_tree f n t bx = some r → ceIn ρ 0 bx → ∃ bx' : List (Int × Int), f (ce_bx 0 bx') = true ∧ bx'.length = bx.length ∧ ceIn ρ 0 bx' ∧ bx'.all ce_bok = true
  | 0, _, _, _, h, _ => by cases h
  | n + 1, [], _, _, h, _ => by cases h
  | n + 1, q :: t, bx, r, h, hin => by
    unfold ce_tree at h
    split at h
    · split at h
      · rename_i hf
        rw [Bool.and_eq_true] at hf
        exact ⟨bx, hf.1, rfl, hin, hf.2⟩
      · cases h
    · split at h
      · rename_i b hb
        split at h
        · rename_i t' ht'
          have hq := hin _ _ hb
          by_cases e : (ρ (0 + q.1)).toInt < q.2
          · obtain ⟨bx', g1, g2, g3, g4⟩ := ce_tree_ok n t _ t' ht' (hin.set (k := q.1) (b := (b.1, q.2 - 1)) ⟨hq.1, by dsimp only; omega⟩)
            exact ⟨bx', g1, by rw [g2, List.length_set], g3, g4⟩
          · obtain ⟨bx', g1, g2, g3, g4⟩ := ce_tree_ok n t' _ r h (hin.set (k := q.1) (b := (q.2, b.2)) ⟨by dsimp only; omega, hq.2⟩)
            exact ⟨bx', g1, by rw [g2, List.length_set], g3, g4⟩
        · cases h
      · cases h
theorem ce_bv_ok (ρ : Nat → Int32) (B : Nat) {k : Nat} (hk : k < 6) {b : Int × Int} (h : b.1 ≤ (ρ k).toInt ∧ (ρ k).toInt ≤ b.2) (h2 : ce_bok b = true) : ce_c ρ B (ce_bv k b) = .int (ρ k) := by
  have h3 : b.2 < 2147483648 := of_decide_eq_true h2
  have r1 := (ρ k).le_toInt
  have r2 := (ρ k).toInt_lt
  unfold ce_bv
  split
  · rename_i e
    have : b.1 = (ρ k).toInt := by omega
    show Value.int (Int32.ofInt b.1) = _
    rw [this, fb_asI]
  · rw [ce_cU ρ B (by omega)]
    unfold ce_un
    rw [if_pos (by omega), show 4 + k - 4 = k by omega, ce_clp_in]
    · unfold ce_blo ce_enc
      omega
    · unfold ce_bhi ce_enc
      omega
theorem ce_bx_ok (ρ : Nat → Int32) (B : Nat) : ∀ (bx : List (Int × Int)) (j : Nat), j + bx.length ≤ 6 → ceIn ρ j bx → bx.all ce_bok = true → (ce_bx j bx).map (ce_c ρ B) = (List.range' j bx.length).map (fun k => Value.int (ρ k))
  | [], _, _, _, _ => rfl
  | b :: r, j, hl, hin, ha => by
    rw [List.all_cons, Bool.and_eq_true] at ha
    rw [List.length_cons] at hl
    rw [ce_bx, List.map_cons, ce_bv_ok ρ B (by omega) (by have := hin 0 b rfl; rwa [Nat.add_zero] at this) ha.1, ce_bx_ok ρ B r (j + 1) (by omega) (fun k c hc => by have := hin (k + 1) c (by rw [List.getElem?_cons_succ]; exact hc); rwa [show j + (k + 1) = j + 1 + k by omega] at this) ha.2, List.length_cons, List.range'_succ, List.map_cons]
/-- an object of that class stands there -/
def ce_rcv (hp : ceHp) (o ci : Nat) : Bool := match ce_get hp o with
  | some k => Nat.beq k.1 0 && Nat.beq k.2.1 ci
  | none => false
def ce_two (fuel d mx mm : Nat) (hp : ceHp) (as : List ceV) : Bool := match ce_exec fuel d mx ((2, 0) :: as) hp with
  | some (some r, hp1, c1, z1) => (match ce_exec fuel d mm ((2, 281) :: as) hp1 with
    | some (some r', _, c2, z2) => (ce_eqV r r' && (Nat.beq (c1 + c2) 0 && Nat.beq (z1 + z2) 0)) && (Nat.beq (ce_ty r) 0 && ce_rcv hp1 281 12)
    | _ => false)
  | _ => false
/-- what it gives -/
def ceTwo (d mx mm : Nat) (hp : ceHp) (as : List ceV) : Prop := ∃ (yx ym : nhMth) (r : ceV) (hp1 hp2 : ceHp), ce_m mx = some yx ∧ ce_m mm = some ym ∧ ceMet yx d ((2, 0) :: as) hp (some r) hp1 0 0 ∧ ceMet ym d ((2, 281) :: as) hp1 (some r) hp2 0 0 ∧ ce_ty r = 0 ∧ ce_rcv hp1 281 12 = true
theorem ce_two_ok {fuel d mx mm : Nat} {hp : ceHp} {as : List ceV} (h : ce_two fuel d mx mm hp as = true) : ceTwo d mx mm hp as := by
  unfold ce_two at h
  split at h
  · rename_i r hp1 c1 z1 h1
    split at h
    · rename_i r' hp2 c2 z2 h2
      rw [Bool.and_eq_true, Bool.and_eq_true, Bool.and_eq_true, Bool.and_eq_true] at h
      obtain ⟨⟨e1, e2, e3⟩, e4, e5⟩ := h
      have e1 := ce_eqV_ok _ _ e1
      have e2 := Nat.eq_of_beq_eq_true e2
      have e3 := Nat.eq_of_beq_eq_true e3
      obtain ⟨rfl, rfl⟩ : c1 = 0 ∧ c2 = 0 := by omega
      obtain ⟨rfl, rfl⟩ : z1 = 0 ∧ z2 = 0 := by omega
      subst e1
      obtain ⟨yx, g1, g2⟩ := ce_exec_ok _ _ _ _ _ _ _ _ _ h1
      obtain ⟨ym, g3, g4⟩ := ce_exec_ok _ _ _ _ _ _ _ _ _ h2
      exact ⟨yx, ym, r, hp1, hp2, g1, g3, g2, g4, Nat.eq_of_beq_eq_true e4, e5⟩
    · cases h
  · cases h
def ce_tk (f : List ceV → Bool) (n : Nat) (t : List (Nat × Int)) (bx : List (Int × Int)) : Bool := match ce_tree f n t bx with
  | some _ => true
  | none => false
theorem ce_tk_ok {f : List ceV → Bool} {n : Nat} {t : List (Nat × Int)} {bx : List (Int × Int)} (h : ce_tk f n t bx = true) : ∃ r, ce_tree f n t bx = some r := by
  unfold ce_tk at h
  split at h
  · rename_i r hr
    exact ⟨r, hr⟩
  · cases h
