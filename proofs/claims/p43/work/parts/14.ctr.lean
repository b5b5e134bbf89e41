/-! contracts: (how many arguments; variables: the arguments, then fields' values; fields that are known; the answer; what the answer says of a variable; fields known behind it; whether the heap stays) -/
abbrev nhCtr : Type := Nat × List nhV × List nhMm × Option nhV × List (Bool × Nat × Int × Int) × List (Nat × Nat × Nat × nhV) × Bool
def nhRet (Γ : Nat → Int) (g : Nat → Int32) (r : Option nhV) (v : Option Value) : Prop := match r, v with
  | none, none => True
  | some w, some x => nhOk Γ g w x
  | _, _ => False
def nhPc (E : nhE) (ct : nhCtr) (ρ : List Value) : Array Value → State → Prop := fun a U => a = (ρ.take ct.1).toArray ∧ nhAll E.2.2.1 E.2.2.2 ct.2.1 ρ ∧ nhMe E.1 ρ U.heap ct.2.2.1 ∧ nhH E.1 E.2.1 E.2.2.1 E.2.2.2 U.heap ∧ nhK E.1 U
def nhPost (E : nhE) (ct : nhCtr) (ρ : List Value) (v : Option Value) (H : Heap) : Prop :=
  nhRet E.2.2.1 E.2.2.2 ct.2.2.2.1 v ∧ (∀ q ∈ ct.2.2.2.2.1, ∃ r x : Int32, v = some (.int r) ∧ ρ[q.2.1]? = some (.int x) ∧ (decide (r ≠ 0) = q.1 → q.2.2.1 ≤ x.toInt ∧ x.toInt ≤ q.2.2.2)) ∧
  ∀ q ∈ ct.2.2.2.2.2.1, ∃ (a : Nat) (x : Value) (cell : Cell), ρ[q.2.2.1]? = some (.ref a) ∧ H[a]? = some cell ∧ cell.slots[E.1.2.1 q.1 q.2.1]? = some x ∧ nhOk E.2.2.1 E.2.2.2 q.2.2.2 x
def nhQc (E : nhE) (ct : nhCtr) (ρ : List Value) : Array Value → State → Outcome → State → Prop := fun _ st o t =>
  (∃ v : Option Value, o = .returned v ∧ nhPost E ct ρ v t.heap) ∧ nhH E.1 E.2.1 E.2.2.1 E.2.2.2 t.heap ∧ t.heap.size = st.heap.size ∧ (∀ q : Nat, E.2.2.1 q < 0 → t.heap[q]? = st.heap[q]?) ∧ (ct.2.2.2.2.2.2 = true → t.heap = st.heap)
/-- methods: name, code, number of locals, what it returns, static, number of parameters -/
abbrev nhMth : Type := MethodName × ByteArray × Nat × Option FieldType × Bool × Nat
def nhWs (y : nhMth) : List Cond := Cond.code y.1 y.2.1 y.2.2.1 y.2.2.2.1 :: nhTb
/-- an instance: a method, its contract, its frames, its locals' words -/
abbrev nhIn : Type := Nat × nhCtr × Nat × Nat
def nhRm (en : nhIn) : Room := { frames := en.2.2.1, cells := 0, slots := 0, locals := en.2.2.2 }
def nhMet (kd : List nhKd) (y : nhMth) (en : nhIn) : Prop := ∀ (l : Launch) (D : nhD) (Γ : Nat → Int) (g : Nat → Int32) (ρ : List Value), Met l y.1 (nhWs y) (nhRm en) (nhPc (D, kd, Γ, g) en.2.1 ρ) (nhQc (D, kd, Γ, g) en.2.1 ρ) 0 0 (fun a => 0 ≤ Γ a)
theorem nhPc_blind (E : nhE) (ct : nhCtr) (ρ : List Value) : FrameBlind (nhPc E ct ρ) := fun a U g mk q => by
  obtain ⟨h1, h2, h3, h4, h5⟩ := q
  exact ⟨h1, h2, h3, h4, nhK.moved (u := U) (U := U.calling g mk a) (Vm.Alike.refl U.vm) h5⟩
theorem nhGoodIn {y : nhMth} (h : Cond.code y.1 y.2.1 y.2.2.1 y.2.2.2.1 ∈ nhTb) : GoodIn nhTb (nhWs y) := by
  intro w hw
  rcases List.mem_cons.mp hw with rfl | hw
  · exact nhGoodIn0 _ h
  · exact nhGoodIn0 _ hw
/-- where the contract's variables are among a state's: the arguments, then by the fields -/
def nh_sig (me : List nhMm) : List nhMm → List Nat → Option (List Nat)
  | [], σ => some σ
  | q :: r, σ => match σ[q.2.2.1]? with
    | some o => match nh_mf me q.1 q.2.1 o with
      | some x => if q.2.2.2 = σ.length then nh_sig me r (σ ++ [x]) else none
      | none => none
    | none => none
def nh_pick (ρ : List Value) (σ : List Nat) : List Value := σ.map (fun j => (ρ[j]?).getD .null)
theorem nh_pick_at {ρ : List Value} {σ : List Nat} {i j : Nat} {x : Value} (h : σ[i]? = some j) (hx : ρ[j]? = some x) : (nh_pick ρ σ)[i]? = some x := by
  unfold nh_pick
  rw [List.getElem?_map, h]
  simp [hx]
theorem nh_sig_ok {D : nhD} {ρ : List Value} {H : Heap} {me : List nhMm} (hm : nhMe D ρ H me) : ∀ {ms : List nhMm} {σ σ' : List Nat}, nh_sig me ms σ = some σ' → (∀ j ∈ σ, ∃ x, ρ[j]? = some x) →
    (∀ (i j : Nat), σ[i]? = some j → σ'[i]? = some j) ∧ (∀ j ∈ σ', ∃ x, ρ[j]? = some x) ∧ nhMe D (nh_pick ρ σ') H ms
  | [], σ, σ', h, hj => by
    cases h
    exact ⟨fun _ _ h => h, hj, fun q hq => by cases hq⟩
  | q :: r, σ, σ', h, hj => by
    unfold nh_sig at h
    split at h
    · rename_i o ho
      split at h
      · rename_i x hx
        split at h
        · rename_i hq
          obtain ⟨a, v, cell, m1, m2, m3, m4⟩ := hm _ (nh_mf_ok hx)
          dsimp only at m1 m2 m4
          have hj' : ∀ j ∈ σ ++ [x], ∃ x, ρ[j]? = some x := fun j hjm => by
            rcases List.mem_append.mp hjm with h | h
            · exact hj j h
            · rw [List.mem_singleton] at h
              subst h
              exact ⟨v, m2⟩
          obtain ⟨k1, k2, k3⟩ := nh_sig_ok hm h hj'
          have kp : ∀ (i j : Nat), σ[i]? = some j → σ'[i]? = some j := fun i j hi => k1 i j (by rw [List.getElem?_append_left (List.getElem?_eq_some_iff.mp hi).1]; exact hi)
          refine ⟨kp, k2, fun w hw => ?_⟩
          rcases List.mem_cons.mp hw with rfl | hw
          · refine ⟨a, v, cell, nh_pick_at (kp _ _ ho) m1, nh_pick_at (k1 _ _ ?_) m2, m3, m4⟩
            rw [hq]
            simp
          · exact k3 w hw
        · cases h
      · cases h
    · cases h
/-- each is as the contract wants it -/
def nh_fitV (vs : List nhV) : List Nat → List nhV → Bool
  | [], [] => true
  | j :: σ, w :: ws => (match vs[j]? with
    | some u => nh_le u w
    | none => false) && nh_fitV vs σ ws
  | _, _ => false
theorem nh_fitV_ok {Γ : Nat → Int} {g : Nat → Int32} {vs : List nhV} {ρ : List Value} (hA : nhAll Γ g vs ρ) : ∀ {σ : List Nat} {ws : List nhV}, nh_fitV vs σ ws = true → nhAll Γ g ws (nh_pick ρ σ) ∧ ∀ j ∈ σ, ∃ x, ρ[j]? = some x
  | [], [], _ => ⟨⟨rfl, fun i v h => by simp at h⟩, fun j h => by cases h⟩
  | j :: σ, w :: ws, h => by
    unfold nh_fitV at h
    simp only [Bool.and_eq_true] at h
    obtain ⟨h1, h2⟩ := h
    obtain ⟨⟨k1, k2⟩, k3⟩ := nh_fitV_ok hA h2
    split at h1
    · rename_i u hu
      obtain ⟨x, q1, q2⟩ := hA.2 j u hu
      refine ⟨⟨by simp only [nh_pick, List.map_cons, List.length_cons] at k1 ⊢; rw [k1], fun i v hi => ?_⟩, fun j' hj' => ?_⟩
      · cases i with
        | zero =>
          rw [List.getElem?_cons_zero] at hi
          cases hi
          exact ⟨x, by simp [nh_pick, q1], nh_le_ok h1 q2⟩
        | succ i =>
          rw [List.getElem?_cons_succ] at hi
          obtain ⟨y, r1, r2⟩ := k2 i v hi
          exact ⟨y, by simpa [nh_pick] using r1, r2⟩
      · rcases List.mem_cons.mp hj' with rfl | hj'
        · exact ⟨x, q1⟩
        · exact k3 j' hj'
    · cases h1
  | [], _ :: _, h => by cases h
  | _ :: _, [], h => by cases h
/-- the state behind a call: fields known, as new variables -/
def nh_pm (σ : List Nat) : List (Nat × Nat × Nat × nhV) → nhS → Option nhS
  | [], S => some S
  | q :: r, S => match σ[q.2.2.1]? with
    | some o => nh_pm σ r (S.1 ++ [q.2.2.2], S.2.1, S.2.2.1, (q.1, q.2.1, o, S.1.length) :: S.2.2.2.1, S.2.2.2.2)
    | none => none
def nh_rc (σ : List Nat) (n : Nat) : List (Bool × Nat × Int × Int) → Option (List nhCo)
  | [] => some []
  | q :: r => match σ[q.2.1]?, nh_rc σ n r with
    | some j, some l => some ((n, q.1, j, q.2.2.1, q.2.2.2) :: l)
    | _, _ => none
theorem nh_rc_ok {ρ ρ1 : List Value} {σ : List Nat} {n : Nat} (hX : nhX ρ ρ1) {v : Option Value} {r0 : Int32} (hn : v = some (.int r0) → ρ1[n]? = some (.int r0)) (hσ : ∀ j ∈ σ, ∃ x, ρ[j]? = some x) : ∀ {rs : List (Bool × Nat × Int × Int)} {l : List nhCo}, nh_rc σ n rs = some l →
    (∀ q ∈ rs, ∃ r x : Int32, v = some (.int r) ∧ (nh_pick ρ σ)[q.2.1]? = some (.int x) ∧ (decide (r ≠ 0) = q.1 → q.2.2.1 ≤ x.toInt ∧ x.toInt ≤ q.2.2.2)) → (∀ r, v = some (.int r) → r = r0) → nhCn ρ1 l
  | [], l, h, _, _ => by
    cases h
    exact fun q hq => by cases hq
  | q :: r, l, h, hq, hr => by
    unfold nh_rc at h
    split at h
    · rename_i j l' hj hl
      cases h
      intro w hw
      rcases List.mem_cons.mp hw with rfl | hw
      · obtain ⟨r1, x, g1, g2, g3⟩ := hq q List.mem_cons_self
        have e := hr r1 g1
        subst e
        obtain ⟨y, hy⟩ := hσ j (List.mem_of_getElem? hj)
        rw [nh_pick_at hj hy] at g2
        cases g2
        exact ⟨r1, x, hn g1, hX _ _ hy, g3⟩
      · exact nh_rc_ok hX hn hσ hl (fun q hq' => hq q (List.mem_cons_of_mem _ hq')) hr w hw
    · cases h
theorem nh_pm_ok {E : nhE} {nL : Nat} {pu : Bool} {H0 : Heap} {H : Heap} {locs : List Loc} {ls : Array Slot} {st : List Value} {σ : List Nat} {ρ : List Value} (hσ : ∀ j ∈ σ, ∃ x, ρ[j]? = some x) : ∀ {ps : List (Nat × Nat × Nat × nhV)} {S S' : nhS} {ρ1 : List Value}, nh_pm σ ps S = some S' → nhX ρ ρ1 → nhR E nL pu H0 S ρ1 H locs ls st →
    (∀ q ∈ ps, ∃ (a : Nat) (x : Value) (cell : Cell), (nh_pick ρ σ)[q.2.2.1]? = some (.ref a) ∧ H[a]? = some cell ∧ cell.slots[E.1.2.1 q.1 q.2.1]? = some x ∧ nhOk E.2.2.1 E.2.2.2 q.2.2.2 x) → ∃ ρ2, nhX ρ1 ρ2 ∧ nhR E nL pu H0 S' ρ2 H locs ls st
  | [], S, S', ρ1, h, _, hR, _ => by
    cases h
    exact ⟨ρ1, nhX.rf _, hR⟩
  | q :: r, S, S', ρ1, h, hX, hR, hq => by
    unfold nh_pm at h
    split at h
    · rename_i o ho
      obtain ⟨a, x, cell, g1, g2, g3, g4⟩ := hq q List.mem_cons_self
      obtain ⟨y, hy⟩ := hσ o (List.mem_of_getElem? ho)
      rw [nh_pick_at ho hy] at g1
      cases g1
      have h1 : nhR E nL pu H0 (S.1 ++ [q.2.2.2], S.2.1, S.2.2.1, (q.1, q.2.1, o, S.1.length) :: S.2.2.2.1, S.2.2.2.2) (ρ1 ++ [x]) H locs ls st := by
        obtain ⟨b1, ⟨b2, b2', b2''⟩, b3, b4, b5, b6, b7⟩ := hR
        have hX2 := nhX.push ρ1 x
        refine ⟨b1.push g4, ⟨b2, b2', b2''.mono hX2⟩, nhSt.mono hX2 b3, fun w hw => ?_, b5.mono hX2, b6.mono hX2, b7⟩
        rcases List.mem_cons.mp hw with rfl | hw
        · exact ⟨a, x, cell, hX2 _ _ (hX _ _ hy), by show (ρ1 ++ [x])[S.1.length]? = _; rw [← b1.1]; exact nhX.last ρ1 x, g2, g3⟩
        · exact b4.mono hX2 w hw
      obtain ⟨ρ2, k1, k2⟩ := nh_pm_ok hσ h (hX.tr (nhX.push ρ1 x)) h1 (fun q hq' => hq q (List.mem_cons_of_mem _ hq'))
      exact ⟨ρ2, (nhX.push ρ1 x).tr k1, k2⟩
    · cases h
