/-! kinds of cells: (0, class, number of fields, 0, fields) or (1, array type, length, period, elements by their place modulo the period) -/
abbrev nkKd : Type := Nat × Nat × Nat × Nat × List nkV
def nk_ty (k : nkKd) (j : Nat) : nkV := match k.1 with
  | 0 => k.2.2.2.2.getD j (8, 0, 0)
  | _ => k.2.2.2.2.getD (j % k.2.2.2.1) (8, 0, 0)
def nkSl (D : nhD) (k : nkKd) (f : Nat) : Nat := match k.1 with
  | 0 => D.2.1 k.2.1 f
  | _ => f
def nkCell (D : nhD) (Γ : Nat → Nat) (k : nkKd) (a : Nat) (H : Heap) : Prop := match k.1 with
  | 0 => ∃ V : Nat → Value, t_OB a (D.1 k.2.1) k.2.2.1 (D.2.1 k.2.1) H V ∧ ∀ j, j < k.2.2.1 → nkOk Γ (nk_ty k j) (V j)
  | 1 => ∃ z : Nat → Value, H[a]? = some (arrV (D.2.2 k.2.1) k.2.2.1 z) ∧ ∀ j, j < k.2.2.1 → nkOk Γ (nk_ty k j) (z j)
  | _ => False
abbrev nkE : Type := nhD × List nkKd × (Nat → Nat)
/-- a rule's code, in the order in which it is worked out: it never takes more than there is; kinds 80 (code), 81, 82 (from), 83 (to) are written by hand alone -/
def nkGood (z : Nat → Value) (x y : Value) : Prop := ∃ (f g : Nat) (h : Nat → Nat), x = .int (nI f) ∧ y = .int (nI g) ∧ f ≤ 1120 ∧ g ≤ 1120 ∧ h f = 0 ∧ ∀ k, f ≤ k → k < g → ∃ c : Int32, z k = .int c ∧ ((c = 126 ∧ 1 ≤ h k ∧ h (k + 1) = h k) ∨ (c ≠ 126 ∧ (97 ≤ c.toInt ∧ c.toInt ≤ 122) ∧ h k < 60 ∧ h (k + 1) = h k + 1) ∨ (c ≠ 126 ∧ ¬ (97 ≤ c.toInt ∧ c.toInt ≤ 122) ∧ 2 ≤ h k ∧ h (k + 1) + 1 = h k))
/-- the table of kinds says by its first row's period whether the rules are claimed to be good (0) or not (1: inside readRule) -/
def nk_jf : List nkKd → Bool
  | k :: _ => Nat.beq k.2.2.2.1 0
  | [] => true
/-- a row lies in its own half, or is empty -/
def nkHalf (b : Nat) (x y : Value) : Prop := ∃ f g : Nat, x = .int (nI f) ∧ y = .int (nI g) ∧ f ≤ 1120 ∧ g ≤ 1120 ∧ (g ≤ f ∨ (560 * b ≤ f ∧ g ≤ 560 * b + 560))
/-- of some kinds there is one cell alone -/
def nkUq (Γ : Nat → Nat) : Prop := ∀ a a' : Nat, Γ a' = Γ a → 40 ≤ Γ a → Γ a < 84 → a' = a
def nkJ (E : nkE) (H : Heap) : Prop := nk_jf E.2.1 = true → nkUq E.2.2 ∧ ∀ ac af at' : Nat, E.2.2 ac = 80 → E.2.2 af = 82 → E.2.2 at' = 83 → ∀ zc zf zt : Nat → Value, H[ac]? = some (arrV (E.1.2.2 0) 1120 zc) → H[af]? = some (arrV (E.1.2.2 0) 2 zf) → H[at']? = some (arrV (E.1.2.2 0) 2 zt) → ∀ b, b < 2 → nkGood zc (zf b) (zt b) ∧ nkHalf b (zf b) (zt b)
theorem nkJ.kept {E : nkE} {H H' : Heap} (h : nkJ E H) (hq : ∀ a : Nat, 80 ≤ E.2.2 a → H'[a]? = H[a]?) : nkJ E H' := fun hj => ⟨(h hj).1, fun ac af at' h1 h2 h3 zc zf zt g1 g2 g3 => (h hj).2 ac af at' h1 h2 h3 zc zf zt (by rw [← hq ac (by omega)]; exact g1) (by rw [← hq af (by omega)]; exact g2) (by rw [← hq at' (by omega)]; exact g3)⟩
def nkHc (E : nkE) (H : Heap) : Prop := ∀ (a : Nat) (k : nkKd), E.2.1[E.2.2 a]? = some k → nkCell E.1 E.2.2 k a H
def nkH (E : nkE) (H : Heap) : Prop := nkHc E H ∧ nkJ E H
/-- what may be written: (kind, from place, to place) -/
abbrev nkWs : Type := List (Nat × Nat × Nat)
def nk_cov (w : Nat × Nat × Nat) (k f : Nat) : Bool := Nat.beq w.1 k && (Nat.ble w.2.1 f && Nat.ble f w.2.2)
def nk_off : nkWs → Nat → Nat → Bool
  | [], _, _ => true
  | w :: r, k, f => match nk_cov w k f with
    | true => false
    | false => nk_off r k f
def nkKp (E : nkE) (Ws : nkWs) (H0 H : Heap) : Prop := ∀ (a : Nat) (k : nkKd) (f : Nat) (cell : Cell) (x : Value), E.2.1[E.2.2 a]? = some k → f < k.2.2.1 → nk_off Ws (E.2.2 a) f = true → H0[a]? = some cell → cell.slots[nkSl E.1 k f]? = some x → ∃ cell', H[a]? = some cell' ∧ cell'.slots[nkSl E.1 k f]? = some x
theorem nkKp.rf (E : nkE) (Ws : nkWs) (H : Heap) : nkKp E Ws H H := fun _ _ _ cell _ _ _ _ h1 h2 => ⟨cell, h1, h2⟩
theorem nkKp.tr {E : nkE} {Ws : nkWs} {H0 H1 H2 : Heap} (h : nkKp E Ws H0 H1) (g : nkKp E Ws H1 H2) : nkKp E Ws H0 H2 := fun a k f cell x q1 q2 q3 q4 q5 => by
  obtain ⟨c1, r1, r2⟩ := h a k f cell x q1 q2 q3 q4 q5
  exact g a k f c1 x q1 q2 q3 r1 r2
/-- a state: how many variables, their values (the newest first), locals (slot, variable), stack, fields that are known (object, field, value), differences (w ≤ x + c), what an answer says -/
abbrev nkMm : Type := Nat × Nat × Nat
abbrev nkDf : Type := Nat × Nat × Nat
abbrev nkCo : Type := Nat × Bool × Nat × Nat × Nat
abbrev nkS : Type := Nat × List nkV × List (Nat × Nat) × List Nat × List nkMm × List nkDf × List nkCo
def nk_g {α : Type} : List α → Nat → Nat → Option α
  | [], _, _ => none
  | x :: r, n, i => match n with
    | 0 => none
    | k + 1 => match Nat.beq i k with
      | true => some x
      | false => nk_g r k i
theorem nk_g_lt {α : Type} : ∀ {l : List α} {n i : Nat} {v : α}, nk_g l n i = some v → i < n
  | [], _, _, _, h => by cases h
  | x :: r, n, i, v, h => by
    unfold nk_g at h
    cases n with
    | zero => cases h
    | succ k =>
      dsimp only at h
      split at h
      · rename_i e
        have := Nat.eq_of_beq_eq_true e
        omega
      · have := nk_g_lt h
        omega
theorem nk_g_push {α : Type} (l : List α) (n i : Nat) (x : α) : nk_g (x :: l) (n + 1) i = if i = n then some x else nk_g l n i := by
  show (match Nat.beq i n with | true => some x | false => nk_g l n i) = _
  by_cases h : i = n
  · subst h
    rw [if_pos rfl, Nat.beq_refl]
  · rw [if_neg h]
    have : Nat.beq i n = false := by
      cases e : Nat.beq i n with
      | false => rfl
      | true => exact absurd (Nat.eq_of_beq_eq_true e) h
    rw [this]
def nk_u {α : Type} : List α → Nat → Nat → α → List α
  | [], _, _, _ => []
  | x :: r, n, i, v => match n with
    | 0 => x :: r
    | k + 1 => match Nat.beq i k with
      | true => v :: r
      | false => x :: nk_u r k i v
theorem nk_g_u {α : Type} : ∀ {l : List α} {n i j : Nat} {v w : α}, nk_g (nk_u l n i v) n j = some w → (j = i ∧ w = v) ∨ nk_g l n j = some w
  | [], _, _, _, _, _, h => by cases h
  | x :: r, n, i, j, v, w, h => by
    cases n with
    | zero => exact Or.inr h
    | succ k =>
      unfold nk_u at h
      dsimp only at h
      split at h
      · rename_i e
        have e := Nat.eq_of_beq_eq_true e
        rw [nk_g_push] at h ⊢
        split at h
        · rename_i q
          cases h
          exact Or.inl ⟨by omega, rfl⟩
        · rename_i q
          rw [if_neg q]
          exact Or.inr h
      · rw [nk_g_push] at h ⊢
        split at h
        · rename_i q
          rw [if_pos q]
          exact Or.inr h
        · rename_i q
          rw [if_neg q]
          exact nk_g_u h
def nkX (n : Nat) (ρ ρ' : Nat → Value) : Prop := ∀ i, i < n → ρ' i = ρ i
theorem nkX.rf (n : Nat) (ρ : Nat → Value) : nkX n ρ ρ := fun _ _ => rfl
theorem nkX.tr {n m : Nat} {a b c : Nat → Value} (h : nkX n a b) (hm : n ≤ m) (k : nkX m b c) : nkX n a c := fun i q => (k i (Nat.lt_of_lt_of_le q hm)).trans (h i q)
theorem nkX.push (n : Nat) (ρ : Nat → Value) (x : Value) : nkX n ρ (updV ρ n x) := fun i h => by
  unfold updV
  rw [if_neg (by omega)]
theorem nk_upd (n : Nat) (ρ : Nat → Value) (x : Value) : updV ρ n x n = x := by
  unfold updV
  rw [if_pos rfl]
def nkAll (Γ : Nat → Nat) (n : Nat) (vs : List nkV) (ρ : Nat → Value) : Prop := ∀ (i : Nat) (v : nkV), nk_g vs n i = some v → nkOk Γ v (ρ i)
def nkLo (n : Nat) (ρ : Nat → Value) (lo : List (Nat × Nat)) (ls : Array Slot) : Prop := ∀ q ∈ lo, q.2 < n ∧ ls[q.1]? = some (.val (ρ q.2))
def nkSt (n : Nat) (ρ : Nat → Value) (is : List Nat) (st : List Value) : Prop := st = is.map ρ ∧ ∀ i ∈ is, i < n
def nkMe (E : nkE) (n : Nat) (ρ : Nat → Value) (H : Heap) (me : List nkMm) : Prop := ∀ q ∈ me, q.1 < n ∧ q.2.2 < n ∧ ∃ (a : Nat) (k : nkKd) (cell : Cell), ρ q.1 = .ref a ∧ E.2.1[E.2.2 a]? = some k ∧ q.2.1 < k.2.2.1 ∧ H[a]? = some cell ∧ cell.slots[nkSl E.1 k q.2.1]? = some (ρ q.2.2)
def nkDi (n : Nat) (ρ : Nat → Value) (di : List nkDf) : Prop := ∀ q ∈ di, q.1 < n ∧ q.2.1 < n ∧ ∃ a b : Int32, ρ q.1 = .int a ∧ ρ q.2.1 = .int b ∧ a.toInt + 18446744073709551616 ≤ b.toInt + (q.2.2 : Int)
def nkW (x : Value) (lo hi : Nat) : Prop := (∃ a : Int32, x = .int a ∧ (lo : Int) ≤ a.toInt + 18446744073709551616 ∧ a.toInt + 18446744073709551616 ≤ (hi : Int)) ∨ ∃ a : Int64, x = .long a ∧ (lo : Int) ≤ a.toInt + 18446744073709551616 ∧ a.toInt + 18446744073709551616 ≤ (hi : Int)
def nkCn (n : Nat) (ρ : Nat → Value) (co : List nkCo) : Prop := ∀ q ∈ co, q.1 < n ∧ q.2.2.1 < n ∧ ∃ r : Int32, ρ q.1 = .int r ∧ (decide (r ≠ 0) = q.2.1 → nkW (ρ q.2.2.1) q.2.2.2.1 q.2.2.2.2)
def nkFr (E : nkE) (Ws : nkWs) (H0 H : Heap) (locs : List Loc) : Prop := H.size = H0.size ∧ (∀ q : Nat, E.2.1.length ≤ E.2.2 q → H[q]? = H0[q]?) ∧ (∀ l ∈ locs, E.2.2 l.base < E.2.1.length) ∧ nkKp E Ws H0 H
/-- what a state says without its frame -/
def nkT (E : nkE) (S : nkS) (ρ : Nat → Value) (H : Heap) : Prop := nkAll E.2.2 S.1 S.2.1 ρ ∧ nkMe E S.1 ρ H S.2.2.2.2.1 ∧ nkDi S.1 ρ S.2.2.2.2.2.1 ∧ nkCn S.1 ρ S.2.2.2.2.2.2 ∧ nkH E H
def nkR (E : nkE) (nL : Nat) (Ws : nkWs) (H0 : Heap) (S : nkS) (ρ : Nat → Value) (H : Heap) (locs : List Loc) (ls : Array Slot) (st : List Value) : Prop :=
  nkT E S ρ H ∧ (ls.size = nL ∧ lv_wf ls ∧ nkLo S.1 ρ S.2.2.1 ls) ∧ nkSt S.1 ρ S.2.2.2.1 st ∧ nkFr E Ws H0 H locs
theorem nkAll.push {Γ : Nat → Nat} {n : Nat} {vs : List nkV} {ρ : Nat → Value} {v : nkV} {x : Value} (h : nkAll Γ n vs ρ) (hv : nkOk Γ v x) : nkAll Γ (n + 1) (v :: vs) (updV ρ n x) := fun i w hi => by
  rw [nk_g_push] at hi
  split at hi
  · rename_i e
    cases hi
    subst e
    rw [nk_upd]
    exact hv
  · have hl := nk_g_lt hi
    rw [nkX.push n ρ x i hl]
    exact h i w hi
section NK31
variable {E : nkE} {n m : Nat} {ρ ρ' : Nat → Value}
theorem nkLo.mono {lo : List (Nat × Nat)} {ls : Array Slot} (hx : nkX n ρ ρ') (hm : n ≤ m) (h : nkLo n ρ lo ls) : nkLo m ρ' lo ls := fun q hq => by
  obtain ⟨h1, h2⟩ := h q hq
  exact ⟨Nat.lt_of_lt_of_le h1 hm, by rw [hx _ h1]; exact h2⟩
theorem nkSt.mono {is : List Nat} {st : List Value} (hx : nkX n ρ ρ') (hm : n ≤ m) (h : nkSt n ρ is st) : nkSt m ρ' is st := by
  refine ⟨?_, fun i hi => Nat.lt_of_lt_of_le (h.2 i hi) hm⟩
  rw [h.1]
  exact List.map_congr_left fun i hi => (hx i (h.2 i hi)).symm
theorem nkMe.mono {H : Heap} {me : List nkMm} (hx : nkX n ρ ρ') (hm : n ≤ m) (h : nkMe E n ρ H me) : nkMe E m ρ' H me := fun q hq => by
  obtain ⟨h1, h2, h3⟩ := h q hq
  exact ⟨Nat.lt_of_lt_of_le h1 hm, Nat.lt_of_lt_of_le h2 hm, by rw [hx _ h1, hx _ h2]; exact h3⟩
theorem nkDi.mono {di : List nkDf} (hx : nkX n ρ ρ') (hm : n ≤ m) (h : nkDi n ρ di) : nkDi m ρ' di := fun q hq => by
  obtain ⟨h1, h2, h3⟩ := h q hq
  exact ⟨Nat.lt_of_lt_of_le h1 hm, Nat.lt_of_lt_of_le h2 hm, by rw [hx _ h1, hx _ h2]; exact h3⟩
theorem nkCn.mono {co : List nkCo} (hx : nkX n ρ ρ') (hm : n ≤ m) (h : nkCn n ρ co) : nkCn m ρ' co := fun q hq => by
  obtain ⟨h1, h2, h3⟩ := h q hq
  exact ⟨Nat.lt_of_lt_of_le h1 hm, Nat.lt_of_lt_of_le h2 hm, by rw [hx _ h1, hx _ h2]; exact h3⟩
theorem nkSt.cons {i : Nat} {is : List Nat} {st : List Value} (h : nkSt n ρ is st) (hi : i < n) : nkSt n ρ (i :: is) (ρ i :: st) := ⟨by rw [h.1]; rfl, fun j hj => by
  rcases List.mem_cons.mp hj with rfl | hj
  · exact hi
  · exact h.2 j hj⟩
theorem nkSt.inv1 {i : Nat} {is : List Nat} {st : List Value} (h : nkSt n ρ (i :: is) st) : i < n ∧ ∃ xs, st = ρ i :: xs ∧ nkSt n ρ is xs :=
  ⟨h.2 i List.mem_cons_self, is.map ρ, h.1, rfl, fun j hj => h.2 j (List.mem_cons_of_mem _ hj)⟩
variable {nL : Nat} {Ws : nkWs} {H0 : Heap} {S : nkS} {H : Heap} {locs : List Loc} {ls : Array Slot} {st : List Value}
/-- a new variable on the stack -/
def nk_push (S : nkS) (rest : List Nat) (v : nkV) : nkS := (S.1 + 1, v :: S.2.1, S.2.2.1, S.1 :: rest, S.2.2.2.2)
theorem nk_push_ok {rest : List Nat} {v : nkV} {x : Value} {xs : List Value} (h : nkR E nL Ws H0 S ρ H locs ls st) (hr : nkSt S.1 ρ rest xs) (hv : nkOk E.2.2 v x) : nkR E nL Ws H0 (nk_push S rest v) (updV ρ S.1 x) H locs ls (x :: xs) := by
  obtain ⟨⟨h1, h2, h3, h4, h5⟩, ⟨h6, h7, h8⟩, h9, h10⟩ := h
  have hx := nkX.push S.1 ρ x
  have hle : S.1 ≤ S.1 + 1 := Nat.le_succ _
  refine ⟨⟨h1.push hv, h2.mono hx hle, h3.mono hx hle, h4.mono hx hle, h5⟩, ⟨h6, h7, h8.mono hx hle⟩, ?_, h10⟩
  have := (nkSt.mono hx hle hr).cons (i := S.1) (Nat.lt_succ_self _)
  rw [nk_upd] at this
  exact this
/-- another stack -/
theorem nk_stack_ok {is : List Nat} {xs : List Value} (h : nkR E nL Ws H0 S ρ H locs ls st) (hr : nkSt S.1 ρ is xs) : nkR E nL Ws H0 (S.1, S.2.1, S.2.2.1, is, S.2.2.2.2) ρ H locs ls xs := ⟨h.1, h.2.1, hr, h.2.2.2⟩
/-- more differences, more of what answers say -/
theorem nk_dif_ok {l : List nkDf} (h : nkR E nL Ws H0 S ρ H locs ls st) (hl : nkDi S.1 ρ l) : nkR E nL Ws H0 (S.1, S.2.1, S.2.2.1, S.2.2.2.1, S.2.2.2.2.1, l ++ S.2.2.2.2.2.1, S.2.2.2.2.2.2) ρ H locs ls st := by
  obtain ⟨⟨h1, h2, h3, h4, h5⟩, h6⟩ := h
  refine ⟨⟨h1, h2, fun q hq => ?_, h4, h5⟩, h6⟩
  rcases List.mem_append.mp hq with h | h
  · exact hl q h
  · exact h3 q h
theorem nk_con_ok {l : List nkCo} (h : nkR E nL Ws H0 S ρ H locs ls st) (hl : nkCn S.1 ρ l) : nkR E nL Ws H0 (S.1, S.2.1, S.2.2.1, S.2.2.2.1, S.2.2.2.2.1, S.2.2.2.2.2.1, l ++ S.2.2.2.2.2.2) ρ H locs ls st := by
  obtain ⟨⟨h1, h2, h3, h4, h5⟩, h6⟩ := h
  refine ⟨⟨h1, h2, h3, fun q hq => ?_, h5⟩, h6⟩
  rcases List.mem_append.mp hq with h | h
  · exact hl q h
  · exact h4 q h
/-- a variable's bounds, known better -/
def nk_set (S : nkS) (i : Nat) (v : nkV) : nkS := (S.1, nk_u S.2.1 S.1 i v, S.2.2)
theorem nk_set_ok {i : Nat} {v : nkV} (h : nkR E nL Ws H0 S ρ H locs ls st) (hv : nkOk E.2.2 v (ρ i)) : nkR E nL Ws H0 (nk_set S i v) ρ H locs ls st := by
  obtain ⟨⟨h1, h2⟩, h3⟩ := h
  refine ⟨⟨fun j w hj => ?_, h2⟩, h3⟩
  rcases nk_g_u hj with ⟨rfl, rfl⟩ | hj
  · exact hv
  · exact h1 j w hj
/-- x is within: none if it can't be -/
def nk_ref (S : nkS) (i lo hi : Nat) : Option nkS := match nk_g S.2.1 S.1 i with
  | some v => match v.1 with
    | 0 => match Nat.ble (Nat.max v.2.1 lo) (Nat.min v.2.2 hi) with
      | true => some (nk_set S i (0, Nat.max v.2.1 lo, Nat.min v.2.2 hi))
      | false => none
    | 5 => match Nat.ble (Nat.max v.2.1 lo) (Nat.min v.2.2 hi) with
      | true => some (nk_set S i (5, Nat.max v.2.1 lo, Nat.min v.2.2 hi))
      | false => none
    | 1 => match Nat.ble (Nat.max v.2.1 lo) (Nat.min v.2.2 hi) with
      | true => some (nk_set S i (1, Nat.max v.2.1 lo, Nat.min v.2.2 hi))
      | false => none
    | _ => some S
  | none => some S
theorem nk_ref_ok {i lo hi : Nat} (h : nkR E nL Ws H0 S ρ H locs ls st) (hx : nkW (ρ i) lo hi) : ∃ S', nk_ref S i lo hi = some S' ∧ S'.1 = S.1 ∧ nkR E nL Ws H0 S' ρ H locs ls st := by
  have mx : ∀ {a b : Nat} {z : Int}, (a : Int) ≤ z → (b : Int) ≤ z → ((Nat.max a b : Nat) : Int) ≤ z := fun {a b z} h1 h2 => by
    have : Nat.max a b = a ∨ Nat.max a b = b := by
      rcases Nat.le_total a b with q | q
      · exact Or.inr (Nat.max_eq_right q)
      · exact Or.inl (Nat.max_eq_left q)
    rcases this with q | q <;> rw [q] <;> assumption
  have mn : ∀ {a b : Nat} {z : Int}, z ≤ (a : Int) → z ≤ (b : Int) → z ≤ ((Nat.min a b : Nat) : Int) := fun {a b z} h1 h2 => by
    have : Nat.min a b = a ∨ Nat.min a b = b := by
      rcases Nat.le_total a b with q | q
      · exact Or.inl (Nat.min_eq_left q)
      · exact Or.inr (Nat.min_eq_right q)
    rcases this with q | q <;> rw [q] <;> assumption
  unfold nk_ref
  split
  · rename_i v hv
    have hok := h.1.1 i v hv
    obtain ⟨t, a, b⟩ := v
    dsimp only
    split
    · obtain ⟨z, e, q1, q2⟩ := hok
      rcases hx with ⟨z', e', p1, p2⟩ | ⟨z', e', p1, p2⟩
      · rw [e] at e'
        cases e'
        dsimp only at q1 q2
        have r1 := mx q1 p1
        have r2 := mn q2 p2
        split
        · exact ⟨_, rfl, rfl, nk_set_ok h ⟨z, e, r1, r2⟩⟩
        · rename_i hf
          have hb : Nat.ble (Nat.max a lo) (Nat.min b hi) = true := Nat.ble_eq_true_of_le (by omega)
          rw [hf] at hb
          cases hb
      · rw [e] at e'
        cases e'
    · obtain ⟨z, e, q0, q1, q2⟩ := hok
      rcases hx with ⟨z', e', p1, p2⟩ | ⟨z', e', p1, p2⟩
      · rw [e] at e'
        cases e'
        dsimp only at q1 q2
        have r1 := mx q1 p1
        have r2 := mn q2 p2
        split
        · exact ⟨_, rfl, rfl, nk_set_ok h ⟨z, e, q0, r1, r2⟩⟩
        · rename_i hf
          have hb : Nat.ble (Nat.max a lo) (Nat.min b hi) = true := Nat.ble_eq_true_of_le (by omega)
          rw [hf] at hb
          cases hb
      · rw [e] at e'
        cases e'
    · obtain ⟨z, e, q1, q2⟩ := hok
      rcases hx with ⟨z', e', p1, p2⟩ | ⟨z', e', p1, p2⟩
      · rw [e] at e'
        cases e'
      · rw [e] at e'
        cases e'
        dsimp only at q1 q2
        have r1 := mx q1 p1
        have r2 := mn q2 p2
        split
        · exact ⟨_, rfl, rfl, nk_set_ok h ⟨z, e, r1, r2⟩⟩
        · rename_i hf
          have hb : Nat.ble (Nat.max a lo) (Nat.min b hi) = true := Nat.ble_eq_true_of_le (by omega)
          rw [hf] at hb
          cases hb
    · exact ⟨S, rfl, rfl, h⟩
  · exact ⟨S, rfl, rfl, h⟩
end NK31
