/-! the classes, the array types; kinds of cells: (0, class, number of fields, fields) or (1, array type, length, elements: one for all, or one for each) -/
abbrev nhCl : List vw_C := [(RX0, TX0, 9), (RX1, TX1, 5), (RX2, TX2, 4), (RX3, TX3, 14), (RX4, TX4, 8), (RX5, TX5, 7), (RX6, TX6, 13), (RX7, TX7, 10), (RX11, TX8, 0), (RX9, TX9, 7), (RX10, TX10, 4), (RX11, TX11, 17), (RX12, TX12, 64)]
abbrev nhTy : List FieldType := [.int, .byte, .long, .boolean, .object "NightHouses$Night"]
abbrev nhD : Type := (Nat → ClassId) × (Nat → Nat → Nat) × (Nat → ClassId)
abbrev nhKd : Type := Nat × Nat × Nat × List nhV
def nh_el (l : List nhV) (j : Nat) : nhV := match l with
  | [x] => x
  | _ => l.getD j (8, 0, 0)
def nhCell (D : nhD) (Γ : Nat → Int) (g : Nat → Int32) (k : nhKd) (a : Nat) (H : Heap) : Prop := match k.1 with
  | 0 => ∃ V : Nat → Value, t_OB a (D.1 k.2.1) k.2.2.1 (D.2.1 k.2.1) H V ∧ ∀ j, j < k.2.2.1 → nhOk Γ g (k.2.2.2.getD j (8, 0, 0)) (V j)
  | 1 => ∃ z : Nat → Value, H[a]? = some (arrV (D.2.2 k.2.1) k.2.2.1 z) ∧ ∀ j, j < k.2.2.1 → nhOk Γ g (nh_el k.2.2.2 j) (z j)
  | _ => False
def nhH (D : nhD) (kd : List nhKd) (Γ : Nat → Int) (g : Nat → Int32) (H : Heap) : Prop := ∀ a : Nat, 0 ≤ Γ a → ∃ k, kd[(Γ a).toNat]? = some k ∧ nhCell D Γ g k a H
def nhK (D : nhD) (U : State) : Prop := (∀ (c : Nat) (q : vw_C), nhCl[c]? = some q → u_Kn U q.1 q.2.1 q.2.2 (D.1 c) (D.2.1 c)) ∧ ∀ (k : Nat) (ty : FieldType), nhTy[k]? = some ty → ArrOfT U (D.2.2 k) ty ∧ va_RA U (D.2.2 k) ty
theorem nhK.moved {D : nhD} {u U : State} (hvm : u.vm.Alike U.vm) (h : nhK D u) : nhK D U := ⟨fun c q hq => u_Kn_moved hvm (h.1 c q hq), fun k q hk => ⟨arrOfT_moved hvm (h.2 k q hk).1, (h.2 k q hk).2.moved hvm⟩⟩
/-- a state: variables, locals (slot, variable), stack, fields that are known (class, field, object, value), differences (w ≤ x + c), what an answer says (r, whether r ≠ 0, then w is within) -/
abbrev nhMm : Type := Nat × Nat × Nat × Nat
abbrev nhDf : Type := Nat × Nat × Int
abbrev nhCo : Type := Nat × Bool × Nat × Int × Int
abbrev nhS : Type := List nhV × List (Nat × Nat) × List Nat × List nhMm × List nhDf × List nhCo
def nhAll (Γ : Nat → Int) (g : Nat → Int32) (vs : List nhV) (ρ : List Value) : Prop := ρ.length = vs.length ∧ ∀ (i : Nat) (v : nhV), vs[i]? = some v → ∃ x, ρ[i]? = some x ∧ nhOk Γ g v x
def nhLo (ρ : List Value) (lo : List (Nat × Nat)) (ls : Array Slot) : Prop := ∀ q ∈ lo, ∃ x, ρ[q.2]? = some x ∧ ls[q.1]? = some (.val x)
def nhSt (ρ : List Value) : List Nat → List Value → Prop
  | [], [] => True
  | i :: is, x :: xs => ρ[i]? = some x ∧ nhSt ρ is xs
  | _, _ => False
def nhMe (D : nhD) (ρ : List Value) (H : Heap) (me : List nhMm) : Prop := ∀ q ∈ me, ∃ (a : Nat) (x : Value) (cell : Cell), ρ[q.2.2.1]? = some (.ref a) ∧ ρ[q.2.2.2]? = some x ∧ H[a]? = some cell ∧ cell.slots[D.2.1 q.1 q.2.1]? = some x
def nhDi (ρ : List Value) (di : List nhDf) : Prop := ∀ q ∈ di, ∃ a b : Int32, ρ[q.1]? = some (.int a) ∧ ρ[q.2.1]? = some (.int b) ∧ a.toInt ≤ b.toInt + q.2.2
def nhCn (ρ : List Value) (co : List nhCo) : Prop := ∀ q ∈ co, ∃ r a : Int32, ρ[q.1]? = some (.int r) ∧ ρ[q.2.2.1]? = some (.int a) ∧ (decide (r ≠ 0) = q.2.1 → q.2.2.2.1 ≤ a.toInt ∧ a.toInt ≤ q.2.2.2.2)
def nhFr (Γ : Nat → Int) (pu : Bool) (H0 H : Heap) (locs : List Loc) : Prop := H.size = H0.size ∧ (∀ q : Nat, Γ q < 0 → H[q]? = H0[q]?) ∧ (∀ l ∈ locs, 0 ≤ Γ l.base) ∧ (pu = true → H = H0)
/-- the tuple of what holds of all heaps and names; then the relation -/
abbrev nhE : Type := nhD × List nhKd × (Nat → Int) × (Nat → Int32)
def nhR (E : nhE) (nL : Nat) (pu : Bool) (H0 : Heap) (S : nhS) (ρ : List Value) (H : Heap) (locs : List Loc) (ls : Array Slot) (st : List Value) : Prop :=
  nhAll E.2.2.1 E.2.2.2 S.1 ρ ∧ (ls.size = nL ∧ lv_wf ls ∧ nhLo ρ S.2.1 ls) ∧ nhSt ρ S.2.2.1 st ∧ nhMe E.1 ρ H S.2.2.2.1 ∧ nhDi ρ S.2.2.2.2.1 ∧ nhCn ρ S.2.2.2.2.2 ∧ nhH E.1 E.2.1 E.2.2.1 E.2.2.2 H ∧ nhFr E.2.2.1 pu H0 H locs
/-- more variables -/
def nhX (ρ ρ' : List Value) : Prop := ∀ (i : Nat) (x : Value), ρ[i]? = some x → ρ'[i]? = some x
theorem nhX.rf (ρ : List Value) : nhX ρ ρ := fun _ _ h => h
theorem nhX.tr {a b c : List Value} (h : nhX a b) (k : nhX b c) : nhX a c := fun i x q => k i x (h i x q)
theorem nhX.push (ρ : List Value) (v : Value) : nhX ρ (ρ ++ [v]) := fun i x h => by
  rw [List.getElem?_append_left (List.getElem?_eq_some_iff.mp h).1]; exact h
theorem nhX.last (ρ : List Value) (v : Value) : (ρ ++ [v])[ρ.length]? = some v := by simp
theorem nhLo.mono {ρ ρ' : List Value} {lo : List (Nat × Nat)} {ls : Array Slot} (hx : nhX ρ ρ') (h : nhLo ρ lo ls) : nhLo ρ' lo ls := fun q hq => by
  obtain ⟨x, h1, h2⟩ := h q hq
  exact ⟨x, hx _ _ h1, h2⟩
theorem nhSt.mono {ρ ρ' : List Value} (hx : nhX ρ ρ') : ∀ {is : List Nat} {xs : List Value}, nhSt ρ is xs → nhSt ρ' is xs
  | [], [], _ => trivial
  | _ :: _, _ :: _, h => ⟨hx _ _ h.1, nhSt.mono hx h.2⟩
  | [], _ :: _, h => h
  | _ :: _, [], h => h
theorem nhMe.mono {D : nhD} {ρ ρ' : List Value} {H : Heap} {me : List nhMm} (hx : nhX ρ ρ') (h : nhMe D ρ H me) : nhMe D ρ' H me := fun q hq => by
  obtain ⟨a, x, cell, h1, h2, h3⟩ := h q hq
  exact ⟨a, x, cell, hx _ _ h1, hx _ _ h2, h3⟩
theorem nhDi.mono {ρ ρ' : List Value} {di : List nhDf} (hx : nhX ρ ρ') (h : nhDi ρ di) : nhDi ρ' di := fun q hq => by
  obtain ⟨a, b, h1, h2, h3⟩ := h q hq
  exact ⟨a, b, hx _ _ h1, hx _ _ h2, h3⟩
theorem nhCn.mono {ρ ρ' : List Value} {co : List nhCo} (hx : nhX ρ ρ') (h : nhCn ρ co) : nhCn ρ' co := fun q hq => by
  obtain ⟨a, b, h1, h2, h3⟩ := h q hq
  exact ⟨a, b, hx _ _ h1, hx _ _ h2, h3⟩
theorem nhAll.push {Γ : Nat → Int} {g : Nat → Int32} {vs : List nhV} {ρ : List Value} {v : nhV} {x : Value} (h : nhAll Γ g vs ρ) (hv : nhOk Γ g v x) : nhAll Γ g (vs ++ [v]) (ρ ++ [x]) := by
  obtain ⟨h1, h2⟩ := h
  refine ⟨by simp [h1], fun i w hi => ?_⟩
  by_cases hl : i < vs.length
  · rw [List.getElem?_append_left hl] at hi
    obtain ⟨y, q1, q2⟩ := h2 i w hi
    exact ⟨y, nhX.push ρ x _ _ q1, q2⟩
  · rw [List.getElem?_append_right (by omega)] at hi
    have hz : i - vs.length < 1 := (List.getElem?_eq_some_iff.mp hi).1
    have e : i = ρ.length := by omega
    rw [show i - vs.length = 0 by omega] at hi
    cases hi
    rw [e]
    exact ⟨x, nhX.last ρ x, hv⟩
theorem nhSt.len {ρ : List Value} : ∀ {is : List Nat} {xs : List Value}, nhSt ρ is xs → is.length = xs.length
  | [], [], _ => rfl
  | _ :: _, _ :: _, h => by simp [nhSt.len h.2]
  | [], _ :: _, h => h.elim
  | _ :: _, [], h => h.elim
theorem nhSt.inv1 {ρ : List Value} {i : Nat} {is : List Nat} {st : List Value} (h : nhSt ρ (i :: is) st) : ∃ x xs, st = x :: xs ∧ ρ[i]? = some x ∧ nhSt ρ is xs := by
  cases st with
  | nil => exact h.elim
  | cons x xs => exact ⟨x, xs, rfl, h.1, h.2⟩
/-- a new variable on the stack -/
def nh_push (S : nhS) (rest : List Nat) (v : nhV) : nhS := (S.1 ++ [v], S.2.1, S.1.length :: rest, S.2.2.2)
theorem nh_push_ok {E : nhE} {nL : Nat} {pu : Bool} {H0 : Heap} {S : nhS} {ρ : List Value} {H : Heap} {locs : List Loc} {ls : Array Slot} {st : List Value} {rest : List Nat} {v : nhV} {x : Value} {xs : List Value}
    (h : nhR E nL pu H0 S ρ H locs ls st) (hr : nhSt ρ rest xs) (hv : nhOk E.2.2.1 E.2.2.2 v x) : nhR E nL pu H0 (nh_push S rest v) (ρ ++ [x]) H locs ls (x :: xs) := by
  obtain ⟨h1, ⟨h2, h3, h4⟩, h5, h6, h7, h8, h9⟩ := h
  have hx := nhX.push ρ x
  exact ⟨h1.push hv, ⟨h2, h3, h4.mono hx⟩, ⟨by show (ρ ++ [x])[S.1.length]? = some x; rw [← h1.1]; exact nhX.last ρ x, nhSt.mono hx hr⟩, h6.mono hx, h7.mono hx, h8.mono hx, h9⟩
/-- another stack -/
theorem nh_stack_ok {E : nhE} {nL : Nat} {pu : Bool} {H0 : Heap} {S : nhS} {ρ : List Value} {H : Heap} {locs : List Loc} {ls : Array Slot} {st : List Value} {is : List Nat} {xs : List Value}
    (h : nhR E nL pu H0 S ρ H locs ls st) (hr : nhSt ρ is xs) : nhR E nL pu H0 (S.1, S.2.1, is, S.2.2.2) ρ H locs ls xs := by
  obtain ⟨h1, h2, h5, h6⟩ := h
  exact ⟨h1, h2, hr, h6⟩
/-- more differences -/
theorem nh_dif_ok {E : nhE} {nL : Nat} {pu : Bool} {H0 : Heap} {S : nhS} {ρ : List Value} {H : Heap} {locs : List Loc} {ls : Array Slot} {st : List Value} {l : List nhDf}
    (h : nhR E nL pu H0 S ρ H locs ls st) (hl : nhDi ρ l) : nhR E nL pu H0 (S.1, S.2.1, S.2.2.1, S.2.2.2.1, l ++ S.2.2.2.2.1, S.2.2.2.2.2) ρ H locs ls st := by
  obtain ⟨h1, h2, h5, h6, h7, h8⟩ := h
  refine ⟨h1, h2, h5, h6, fun q hq => ?_, h8⟩
  rcases List.mem_append.mp hq with h | h
  · exact hl q h
  · exact h7 q h
/-- a variable's bounds, known better -/
def nh_set (S : nhS) (i : Nat) (v : nhV) : nhS := (S.1.set i v, S.2)
theorem nh_set_ok {E : nhE} {nL : Nat} {pu : Bool} {H0 : Heap} {S : nhS} {ρ : List Value} {H : Heap} {locs : List Loc} {ls : Array Slot} {st : List Value} {i : Nat} {v : nhV} {x : Value}
    (h : nhR E nL pu H0 S ρ H locs ls st) (hx : ρ[i]? = some x) (hv : nhOk E.2.2.1 E.2.2.2 v x) : nhR E nL pu H0 (nh_set S i v) ρ H locs ls st := by
  obtain ⟨h1, h2⟩ := h
  refine ⟨⟨by simp [nh_set, h1.1], fun j w hj => ?_⟩, h2⟩
  have hj' : (S.1.set i v)[j]? = some w := hj
  by_cases e : j = i
  · subst e
    have hl : j < S.1.length := by rw [← h1.1]; exact (List.getElem?_eq_some_iff.mp hx).1
    rw [List.getElem?_set_self hl] at hj'
    cases hj'
    exact ⟨x, hx, hv⟩
  · rw [List.getElem?_set_ne (Ne.symm e)] at hj'
    exact h1.2 j w hj'
/-- x is within: none if it can't be -/
def nh_ref (S : nhS) (i : Nat) (lo hi : Int) : Option nhS := match S.1[i]? with
  | some (0, a, b) => if max a lo ≤ min b hi then some (nh_set S i (0, max a lo, min b hi)) else none
  | _ => some S
theorem nh_ref_ok {E : nhE} {nL : Nat} {pu : Bool} {H0 : Heap} {S : nhS} {ρ : List Value} {H : Heap} {locs : List Loc} {ls : Array Slot} {st : List Value} {i : Nat} {lo hi : Int} {a : Int32}
    (h : nhR E nL pu H0 S ρ H locs ls st) (hx : ρ[i]? = some (.int a)) (h1 : lo ≤ a.toInt) (h2 : a.toInt ≤ hi) : ∃ S', nh_ref S i lo hi = some S' ∧ nhR E nL pu H0 S' ρ H locs ls st := by
  unfold nh_ref
  split
  · rename_i u v hv
    obtain ⟨x, q1, z, q2, q3, q4⟩ := h.1.2 i _ hv
    rw [hx] at q1
    cases q1
    cases q2
    dsimp only at q3 q4
    have hm : max u lo ≤ a.toInt ∧ a.toInt ≤ min v hi := ⟨by omega, by omega⟩
    rw [if_pos (by omega)]
    exact ⟨_, rfl, nh_set_ok h hx ⟨a, rfl, hm⟩⟩
  · exact ⟨S, rfl, h⟩
