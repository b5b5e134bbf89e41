/-! pure operations -/
def nk_cI (n : Int) : Nat := (n + 18446744073709551616).toNat
theorem nk_cI_ok {n : Int} (h1 : 18446744071562067968 ≤ nk_cI n) (h2 : nk_cI n ≤ 18446744075857035263) : (Int32.ofInt n).toInt + 18446744073709551616 = (nk_cI n : Int) := by
  unfold nk_cI at h1 h2 ⊢
  rw [fb_ofI (by omega) (by omega)]
  omega
theorem nk_c8_ok {n : Int} (h1 : 18446744073709551616 ≤ nk_cI n + 128) (h2 : nk_cI n ≤ 18446744073709551616 + 127) : ((Int8.ofInt n).toInt32).toInt + 18446744073709551616 = (nk_cI n : Int) := by
  unfold nk_cI at h1 h2 ⊢
  have hs : Int8.size = 256 := rfl
  rw [Int8.toInt_toInt32, Int8.toInt_ofInt, hs, Int.bmod_eq_of_le (by omega) (by omega)]
  omega
theorem nk_c16_ok {n : Int} (h1 : 18446744073709551616 ≤ nk_cI n + 32768) (h2 : nk_cI n ≤ 18446744073709551616 + 32767) : ((Int16.ofInt n).toInt32).toInt + 18446744073709551616 = (nk_cI n : Int) := by
  unfold nk_cI at h1 h2 ⊢
  have hs : Int16.size = 65536 := rfl
  rw [Int16.toInt_toInt32, Int16.toInt_ofInt, hs, Int.bmod_eq_of_le (by omega) (by omega)]
  omega
/-- constants -/
def nk_k (i : Instr) (len : Nat) : Option nkV := match i with
  | .iconst n => match Nat.beq len 1 && (Nat.ble 18446744071562067968 (nk_cI n) && Nat.ble (nk_cI n) 18446744075857035263) with
    | true => some (0, nk_cI n, nk_cI n)
    | false => none
  | .bipush n => match Nat.beq len 2 && (Nat.ble 18446744073709551616 (nk_cI n + 128) && Nat.ble (nk_cI n) 18446744073709551743) with
    | true => some (0, nk_cI n, nk_cI n)
    | false => none
  | .sipush n => match Nat.beq len 3 && (Nat.ble 18446744073709551616 (nk_cI n + 32768) && Nat.ble (nk_cI n) 18446744073709584383) with
    | true => some (0, nk_cI n, nk_cI n)
    | false => none
  | .lconst n => match Nat.beq len 1 with
    | true => some (1, 18446744073709551616 + n.val, 18446744073709551616 + n.val)
    | false => none
  | _ => none
/-- operations on one -/
def nk_o1 (i : Instr) (u : nkV) : Option nkV := match i with
  | .ineg => match nk_iv u with
    | some q => match Nat.ble 18446744071562067969 q.1 with
      | true => some (0, 36893488147419103232 - q.2, 36893488147419103232 - q.1)
      | false => some nk_fl
    | none => none
  | .i2b => match nk_iv u with
    | some _ => some (0, 18446744073709551488, 18446744073709551743)
    | none => none
  | .i2c => match nk_iv u with
    | some q => match Nat.ble 18446744073709551616 q.1 && Nat.ble q.2 18446744073709617151 with
      | true => some (0, q.1, q.2)
      | false => some (0, 18446744073709551616, 18446744073709617151)
    | none => none
  | .i2l => match nk_iv u with
    | some q => some (1, q.1, q.2)
    | none => none
  | .l2i => match nk_lv u with
    | some q => match Nat.ble 18446744071562067968 q.1 && Nat.ble q.2 18446744075857035263 with
      | true => some (0, q.1, q.2)
      | false => some nk_fl
    | none => none
  | _ => none
/-- operations on two longs, on a long and an int -/
def nk_o2 (i : Instr) (u w : nkV) : Option nkV := match nk_lv u with
  | some _ => match nk_lv w with
    | some _ => match (nh_lS i 0 0).isSome with
      | true => some nk_fL
      | false => none
    | none => match nk_iv w with
      | some _ => match (nh_hS i 0 0).isSome with
        | true => some nk_fL
        | false => none
      | none => none
  | none => none
def nk_cmpV (a b c d : Nat) : nkV := match Nat.blt b c with
  | true => (0, 18446744073709551615, 18446744073709551615)
  | false => match Nat.blt d a with
    | true => (0, 18446744073709551617, 18446744073709551617)
    | false => match Nat.beq a b && (Nat.beq c d && Nat.beq a c) with
      | true => (0, 18446744073709551616, 18446744073709551616)
      | false => (0, 18446744073709551615, 18446744073709551617)
theorem nk_blt {a b : Nat} (h : Nat.blt a b = true) : a < b := Nat.le_of_ble_eq_true h
theorem nk_cmp_ok {Γ : Nat → Nat} {a b c d : Nat} {x y : Int64} (h1 : (a : Int) ≤ x.toInt + 18446744073709551616) (h2 : x.toInt + 18446744073709551616 ≤ (b : Int)) (h3 : (c : Int) ≤ y.toInt + 18446744073709551616) (h4 : y.toInt + 18446744073709551616 ≤ (d : Int)) : nkOk Γ (nk_cmpV a b c d) (.int (lg_cmp x y)) := by
  unfold nk_cmpV lg_cmp
  have e1 : (x > y) ↔ y.toInt < x.toInt := by rw [gt_iff_lt, Int64.lt_iff_toInt_lt]
  have e2 : x = y ↔ x.toInt = y.toInt := by rw [Int64.toInt_inj]
  have z0 : (0 : Int32).toInt = 0 := rfl
  have z1 : (1 : Int32).toInt = 1 := rfl
  have zm : (-1 : Int32).toInt = -1 := rfl
  simp only [e1, e2]
  split
  · rename_i q
    have q := nk_blt q
    rw [if_neg (by omega), if_neg (by omega)]
    exact ⟨-1, rfl, by rw [zm]; dsimp only; omega, by rw [zm]; dsimp only; omega⟩
  · split
    · rename_i q
      have q := nk_blt q
      rw [if_pos (by omega)]
      exact ⟨1, rfl, by rw [z1]; dsimp only; omega, by rw [z1]; dsimp only; omega⟩
    · split
      · rename_i q
        rw [Bool.and_eq_true, Bool.and_eq_true] at q
        have q1 := Nat.eq_of_beq_eq_true q.1
        have q2 := Nat.eq_of_beq_eq_true q.2.1
        have q3 := Nat.eq_of_beq_eq_true q.2.2
        rw [if_neg (by omega), if_pos (by omega)]
        exact ⟨0, rfl, by rw [z0]; dsimp only; omega, by rw [z0]; dsimp only; omega⟩
      · split
        · exact ⟨1, rfl, by rw [z1]; dsimp only; omega, by rw [z1]; dsimp only; omega⟩
        · split
          · exact ⟨0, rfl, by rw [z0]; dsimp only; omega, by rw [z0]; dsimp only; omega⟩
          · exact ⟨-1, rfl, by rw [zm]; dsimp only; omega, by rw [zm]; dsimp only; omega⟩
/-- what a comparison's answer n says, when one of the two is one number -/
def nk_cmpC (n x y a b c d : Nat) : List nkCo := (match Nat.beq c d with
  | true => [(n, false, x, c, d)]
  | false => []) ++ (match Nat.beq a b with
  | true => [(n, false, y, a, b)]
  | false => [])
theorem nk_cmpC_ok {n x y a b c d m : Nat} {ρ : Nat → Value} {u w : Int64} (hn : n < m) (hx : x < m) (hy : y < m) (en : ρ n = .int (lg_cmp u w)) (ex : ρ x = .long u) (ey : ρ y = .long w) (h1 : (a : Int) ≤ u.toInt + 18446744073709551616) (h2 : u.toInt + 18446744073709551616 ≤ (b : Int)) (h3 : (c : Int) ≤ w.toInt + 18446744073709551616) (h4 : w.toInt + 18446744073709551616 ≤ (d : Int)) : nkCn m ρ (nk_cmpC n x y a b c d) := by
  have key : decide (lg_cmp u w ≠ 0) = false → u.toInt = w.toInt := fun h => by
    have h := of_decide_eq_false h
    unfold lg_cmp at h
    by_cases g1 : u > w
    · rw [if_pos g1] at h
      exact absurd (by decide) h
    · rw [if_neg g1] at h
      by_cases g2 : u = w
      · rw [g2]
      · rw [if_neg g2] at h
        exact absurd (by decide) h
  intro q hq
  unfold nk_cmpC at hq
  rcases List.mem_append.mp hq with hq | hq
  · split at hq
    · rename_i e
      have e := Nat.eq_of_beq_eq_true e
      rw [List.mem_singleton] at hq
      subst hq
      exact ⟨hn, hx, _, en, fun h => Or.inr ⟨u, ex, by have := key h; dsimp only; omega, by have := key h; dsimp only; omega⟩⟩
    · cases hq
  · split at hq
    · rename_i e
      have e := Nat.eq_of_beq_eq_true e
      rw [List.mem_singleton] at hq
      subst hq
      exact ⟨hn, hy, _, en, fun h => Or.inr ⟨w, ey, by have := key h; dsimp only; omega, by have := key h; dsimp only; omega⟩⟩
    · cases hq
def nkGo (p : Program) (l : Launch) (e : Env) (R : Room) (s : State) (m : MethodId) (args : Array Value) (below : List Frame) (meth : Method) (c : Code) (Q : State → Prop) (E : nkE) (nL : Nat) (Ws : nkWs) (H0 : Heap) (n0 : Nat) (ρ0 : Nat → Value) (pc : Nat) (S : nkS) : Prop :=
  n0 ≤ S.1 → ∀ (ρ : Nat → Value) (H : Heap) (locs : List Loc) (ls : Array Slot) (st : List Value), nkX n0 ρ0 ρ → nkR E nL Ws H0 S ρ H locs ls st → W p l e R s m args below meth c H locs 0 0 Q (F0 m pc ls st)
/-- differences that an operation's answer n has to what it took -/
def nk_ng (c : Nat) : Nat := 36893488147419103232 - c
theorem nk_ng_ok {c : Nat} (h : c ≤ 36893488147419103232) : (nk_ng c : Int) = 36893488147419103232 - (c : Int) := by
  unfold nk_ng
  omega
def nk_dE (n x c d : Nat) : List nkDf := match Nat.beq c d with
  | true => [(n, x, c), (x, n, nk_ng c)]
  | false => []
theorem nk_dE_ok {ρ : Nat → Value} {n x m c d : Nat} {r u : Int32} {w : Int} (lx : x < m) (ln : n < m) (hx : ρ x = .int u) (hn : ρ n = .int r) (h3 : (c : Int) ≤ w + 18446744073709551616) (h4 : w + 18446744073709551616 ≤ (d : Int)) (h5 : w < 2147483648) (e : r.toInt = u.toInt + w) : nkDi m ρ (nk_dE n x c d) := by
  intro q hq
  unfold nk_dE at hq
  split at hq
  · rename_i hc
    have hc := Nat.eq_of_beq_eq_true hc
    have hg := nk_ng_ok (c := c) (by omega)
    rcases List.mem_cons.mp hq with rfl | hq
    · exact ⟨ln, lx, _, _, hn, hx, by dsimp only; omega⟩
    · rw [List.mem_singleton] at hq
      subst hq
      exact ⟨lx, ln, _, _, hx, hn, by dsimp only; omega⟩
  · cases hq
def nk_dL (n x a : Nat) : List nkDf := match Nat.ble 18446744073709551616 a with
  | true => [(n, x, 18446744073709551616)]
  | false => []
theorem nk_dL_ok {ρ : Nat → Value} {n x m a : Nat} {r u : Int32} (lx : x < m) (ln : n < m) (hx : ρ x = .int u) (hn : ρ n = .int r) (e : 18446744073709551616 ≤ a → r.toInt ≤ u.toInt) : nkDi m ρ (nk_dL n x a) := by
  intro q hq
  unfold nk_dL at hq
  split at hq
  · rename_i hc
    have hc := e (Nat.le_of_ble_eq_true hc)
    rw [List.mem_singleton] at hq
    subst hq
    exact ⟨ln, lx, _, _, hn, hx, by dsimp only; omega⟩
  · cases hq
def nk_dR (n y c : Nat) : List nkDf := match Nat.ble 18446744073709551617 c with
  | true => [(n, y, 18446744073709551615)]
  | false => []
theorem nkDi.app {n : Nat} {ρ : Nat → Value} {l k : List nkDf} (h : nkDi n ρ l) (g : nkDi n ρ k) : nkDi n ρ (l ++ k) := fun q hq => by
  rcases List.mem_append.mp hq with q1 | q1
  · exact h q q1
  · exact g q q1
theorem nkDi.nil (n : Nat) (ρ : Nat → Value) : nkDi n ρ [] := fun q hq => by cases hq
def nk_ifT (b : Bool) (l : List nkDf) : List nkDf := match b with
  | true => l
  | false => []
theorem nkDi.ifT {n : Nat} {ρ : Nat → Value} {b : Bool} {l : List nkDf} (h : b = true → nkDi n ρ l) : nkDi n ρ (nk_ifT b l) := by
  cases b with
  | true => exact h rfl
  | false => exact nkDi.nil _ _
def nk_okA (a b c d : Nat) : Bool := Nat.ble 36893488145271619584 (a + c) && Nat.ble (b + d) 36893488149566586879
theorem nk_okA_ok {a b c d : Nat} (h : nk_okA a b c d = true) : 36893488145271619584 ≤ a + c ∧ b + d ≤ 36893488149566586879 := by
  unfold nk_okA at h
  rw [Bool.and_eq_true] at h
  exact ⟨Nat.le_of_ble_eq_true h.1, Nat.le_of_ble_eq_true h.2⟩
def nk_okS (a b c d : Nat) : Bool := Nat.ble (18446744071562067968 + d) (a + 18446744073709551616) && Nat.ble (b + 18446744073709551616) (18446744075857035263 + c)
theorem nk_okS_ok {a b c d : Nat} (h : nk_okS a b c d = true) : 18446744071562067968 + d ≤ a + 18446744073709551616 ∧ b + 18446744073709551616 ≤ 18446744075857035263 + c := by
  unfold nk_okS at h
  rw [Bool.and_eq_true] at h
  exact ⟨Nat.le_of_ble_eq_true h.1, Nat.le_of_ble_eq_true h.2⟩
def nk_d0 (i : Instr) (x y n a b c d : Nat) : List nkDf := match i with
  | .iadd => nk_ifT (nk_okA a b c d) (nk_dE n x c d ++ nk_dE n y a b)
  | .isub => nk_ifT (nk_okS a b c d) (nk_dE x n c d)
  | .iand => nk_dL n y c ++ nk_dL n x a
  | .irem => nk_dR n y c
  | _ => []
theorem nk_dR_ok {ρ : Nat → Value} {y n m : Nat} {c : Nat} {u w r : Int32} (hr : nh_bS .irem u w = some r) (ly : y < m) (ln : n < m) (hy : ρ y = .int w) (hn : ρ n = .int r) (h3 : (c : Int) ≤ w.toInt + 18446744073709551616) : nkDi m ρ (nk_dR n y c) := by
  intro q hq
  unfold nk_dR at hq
  split at hq
  · rename_i hc
    have hc := Nat.le_of_ble_eq_true hc
    rw [List.mem_singleton] at hq
    subst hq
    have hb := tmod_bounds (a := u.toInt) (M := w.toInt) (by omega)
    have e := rem_toInt u w
    simp only [nh_bS] at hr
    split at hr
    · cases hr
    · have hr := Option.some.inj hr
      rw [hr] at e
      exact ⟨ln, ly, _, _, hn, hy, by dsimp only; omega⟩
  · cases hq
theorem nk_d0_ok {ρ : Nat → Value} {i : Instr} {x y n m : Nat} {a b c d : Nat} {u w r : Int32} (hr : nh_bS i u w = some r) (lx : x < m) (ly : y < m) (ln : n < m) (hx : ρ x = .int u) (hy : ρ y = .int w) (hn : ρ n = .int r) (h1 : (a : Int) ≤ u.toInt + 18446744073709551616) (h2 : u.toInt + 18446744073709551616 ≤ (b : Int)) (h3 : (c : Int) ≤ w.toInt + 18446744073709551616) (h4 : w.toInt + 18446744073709551616 ≤ (d : Int)) : nkDi m ρ (nk_d0 i x y n a b c d) := by
  have ru := (fb_rng u).2
  have rw' := (fb_rng w).2
  unfold nk_d0
  split
  · refine nkDi.ifT fun hb => ?_
    have hr : u + w = r := Option.some.inj hr
    have hb := nk_okA_ok hb
    have e := fb_addI (x := u) (y := w) (by omega) (by omega)
    rw [hr] at e
    exact (nk_dE_ok lx ln hx hn h3 h4 rw' e).app (nk_dE_ok ly ln hy hn h1 h2 ru (by omega))
  · refine nkDi.ifT fun hb => ?_
    have hr : u - w = r := Option.some.inj hr
    have hb := nk_okS_ok hb
    have e := fb_subI (x := u) (y := w) (by omega) (by omega)
    rw [hr] at e
    exact nk_dE_ok ln lx hn hx h3 h4 rw' (by omega)
  · have hr : u &&& w = r := Option.some.inj hr
    refine (nk_dL_ok ly ln hy hn fun q => ?_).app (nk_dL_ok lx ln hx hn fun q => ?_)
    · have e := nh_andR u (y := w) (by omega)
      rw [hr] at e
      exact e.2
    · have e := nh_andL (x := u) w (by omega)
      rw [hr] at e
      exact e.2
  · exact nk_dR_ok hr ly ln hy hn h3
  · exact nkDi.nil _ _
def nk_nz (v : nkV) : Bool := match v.1 with
  | 5 => true
  | _ => false
theorem nk_nz_ok {Γ : Nat → Nat} {v : nkV} {a : Int32} (h : nk_nz v = true) (hv : nkOk Γ v (.int a)) : a.toInt ≠ 0 := by
  obtain ⟨t, lo, hi⟩ := v
  unfold nk_nz at h
  dsimp only at h
  split at h
  · obtain ⟨b, e, h1, -⟩ := hv
    cases e
    exact h1
  · cases h
/-- which rows an operation goes to: 0 a constant, 1 on one, 2 on two ints, 3 on longs, 4 lcmp -/
def nk_oc (i : Instr) : Nat := match i with
  | .iconst _ => 0
  | .bipush _ => 0
  | .sipush _ => 0
  | .lconst _ => 0
  | .ineg => 1
  | .i2b => 1
  | .i2c => 1
  | .i2l => 1
  | .l2i => 1
  | .iadd => 2
  | .isub => 2
  | .imul => 2
  | .iand => 2
  | .ior => 2
  | .ixor => 2
  | .ishl => 2
  | .ishr => 2
  | .iushr => 2
  | .idiv => 2
  | .irem => 2
  | .lcmp => 4
  | _ => 3
def nk_sOp (S : nkS) (i : Instr) (len : Nat) : Option nkS := match nk_oc i with
  | 0 => match nk_k i len with
    | some v => some (nk_push S S.2.2.2.1 v)
    | none => none
  | 1 => match S.2.2.2.1 with
    | x :: rest => match nk_g S.2.1 S.1 x with
      | some u => match Nat.beq len 1 with
        | true => match nk_o1 i u with
          | some v => some (nk_push S rest v)
          | none => none
        | false => none
      | none => none
    | [] => none
  | 2 => match S.2.2.2.1 with
    | y :: x :: rest => match nk_g S.2.1 S.1 x, nk_g S.2.1 S.1 y with
      | some u, some w => match nk_iv u, nk_iv w with
        | some q, some r => match Nat.beq len 1 with
          | true => match nk_b i q.1 q.2 r.1 r.2 (nk_nz w) with
            | some v => some (S.1 + 1, v :: S.2.1, S.2.2.1, S.1 :: rest, S.2.2.2.2.1, nk_d0 i x y S.1 q.1 q.2 r.1 r.2 ++ S.2.2.2.2.2.1, S.2.2.2.2.2.2)
            | none => none
          | false => none
        | _, _ => none
      | _, _ => none
    | _ => none
  | 3 => match S.2.2.2.1 with
    | y :: x :: rest => match nk_g S.2.1 S.1 x, nk_g S.2.1 S.1 y with
      | some u, some w => match Nat.beq len 1 with
        | true => match nk_o2 i u w with
          | some v => some (nk_push S rest v)
          | none => none
        | false => none
      | _, _ => none
    | _ => none
  | _ => match S.2.2.2.1 with
    | y :: x :: rest => match nk_g S.2.1 S.1 x, nk_g S.2.1 S.1 y with
      | some u, some w => match nk_lv u, nk_lv w with
        | some q, some r => match Nat.beq len 1 && decide (i = .lcmp) with
          | true => some (S.1 + 1, nk_cmpV q.1 q.2 r.1 r.2 :: S.2.1, S.2.2.1, S.1 :: rest, S.2.2.2.2.1, S.2.2.2.2.2.1, nk_cmpC S.1 x y q.1 q.2 r.1 r.2 ++ S.2.2.2.2.2.2)
          | false => none
        | _, _ => none
      | _, _ => none
    | _ => none
section NK32
variable {p : Program} {l : Launch} {e : Env} {R : Room} {s : State} {m : MethodId} {args : Array Value} {below : List Frame} {meth : Method} {c : Code} {Q : State → Prop}
variable {cc : ByteArray} {E : nkE} {nL : Nat} {Ws : nkWs} {H0 : Heap} {n0 : Nat} {ρ0 : Nat → Value} {pc : Nat} {S : nkS}
theorem nk_k_ok {H : Heap} {locs : List Loc} {ls : Array Slot} {rest : List Value} (hx : p.tables.exec = Jvm.exec) (hb : c.code = cc) {i : Instr} {len : Nat} {v : nkV} (h : nk_k i len = some v) (hd : decode cc pc = .ok (i, len)) :
    ∃ r, nkOk E.2.2 v r ∧ (W p l e R s m args below meth c H locs 0 0 Q (F0 m (pc + len) ls (r :: rest)) → W p l e R s m args below meth c H locs 0 0 Q (F0 m pc ls rest)) := by
  unfold nk_k at h
  split at h
  · split at h
    · rename_i n q
      simp only [Bool.and_eq_true] at q
      have q0 := Nat.eq_of_beq_eq_true q.1
      have := nk_cI_ok (Nat.le_of_ble_eq_true q.2.1) (Nat.le_of_ble_eq_true q.2.2)
      have h := Option.some.inj h
      subst h q0
      exact ⟨_, ⟨_, rfl, by dsimp only; omega, by dsimp only; omega⟩, fun k => lv_iconst hx hb hd rfl k⟩
    · cases h
  · split at h
    · rename_i n q
      simp only [Bool.and_eq_true] at q
      have q0 := Nat.eq_of_beq_eq_true q.1
      have := nk_c8_ok (Nat.le_of_ble_eq_true q.2.1) (Nat.le_of_ble_eq_true q.2.2)
      have h := Option.some.inj h
      subst h q0
      exact ⟨_, ⟨_, rfl, by dsimp only; omega, by dsimp only; omega⟩, fun k => lv_bipush hx hb hd rfl k⟩
    · cases h
  · split at h
    · rename_i n q
      simp only [Bool.and_eq_true] at q
      have q0 := Nat.eq_of_beq_eq_true q.1
      have := nk_c16_ok (Nat.le_of_ble_eq_true q.2.1) (Nat.le_of_ble_eq_true q.2.2)
      have h := Option.some.inj h
      subst h q0
      exact ⟨_, ⟨_, rfl, by dsimp only; omega, by dsimp only; omega⟩, fun k => lv_sipush hx hb hd rfl k⟩
    · cases h
  · rename_i n
    split at h
    · rename_i q
      have q0 := Nat.eq_of_beq_eq_true q
      have h := Option.some.inj h
      subst h q0
      refine ⟨_, ⟨Int64.ofNat (n : Nat), rfl, ?_⟩, fun k => lv_lconst hx hb hd rfl k⟩
      have hn : n = 0 ∨ n = 1 := by omega
      rcases hn with rfl | rfl <;> exact ⟨by decide, by decide⟩
    · cases h
  · cases h
theorem nk_o1_ok {H : Heap} {locs : List Loc} {ls : Array Slot} {rest : List Value} (hx : p.tables.exec = Jvm.exec) (hb : c.code = cc) {i : Instr} {u v : nkV} (h : nk_o1 i u = some v) (hd : decode cc pc = .ok (i, 1)) {x : Value} (hu : nkOk E.2.2 u x) :
    ∃ r, nkOk E.2.2 v r ∧ (W p l e R s m args below meth c H locs 0 0 Q (F0 m (pc + 1) ls (r :: rest)) → W p l e R s m args below meth c H locs 0 0 Q (F0 m pc ls (x :: rest))) := by
  unfold nk_o1 at h
  split at h
  · split at h
    · rename_i q hq
      obtain ⟨z, rfl, q1, q2⟩ := nk_iv_ok hq hu
      have rz := fb_rng z
      split at h
      · rename_i q3
        have q3 := Nat.le_of_ble_eq_true q3
        have h := Option.some.inj h
        subst h
        refine ⟨.int (-z), ⟨-z, rfl, ?_, ?_⟩, fun k => lv_ineg hx hb hd k⟩
        · dsimp only; rw [fb_negI (by omega)]; omega
        · dsimp only; rw [fb_negI (by omega)]; omega
      · cases h
        exact ⟨.int (-z), nk_fl_ok _ _, fun k => lv_ineg hx hb hd k⟩
    · cases h
  · split at h
    · rename_i q hq
      obtain ⟨z, rfl, q1, q2⟩ := nk_iv_ok hq hu
      have h := Option.some.inj h
      subst h
      have hr := nh_i2b_rng z
      exact ⟨.int (z.toInt8.toInt32), ⟨_, rfl, by dsimp only; omega, by dsimp only; omega⟩, fun k => lv_i2b hx hb hd rfl k⟩
    · cases h
  · split at h
    · rename_i q hq
      obtain ⟨z, rfl, q1, q2⟩ := nk_iv_ok hq hu
      split at h
      · rename_i q3
        rw [Bool.and_eq_true] at q3
        have q4 := Nat.le_of_ble_eq_true q3.1
        have q5 := Nat.le_of_ble_eq_true q3.2
        have h := Option.some.inj h
        subst h
        exact ⟨.int z, ⟨z, rfl, q1, q2⟩, fun k => lv_i2c hx hb hd (nh_i2c_id (by omega) (by omega)) k⟩
      · have h := Option.some.inj h
        subst h
        have hr := nh_i2c_rng z
        exact ⟨.int _, ⟨_, rfl, by dsimp only; omega, by dsimp only; omega⟩, fun k => lv_i2c hx hb hd rfl k⟩
    · cases h
  · split at h
    · rename_i q hq
      obtain ⟨z, rfl, q1, q2⟩ := nk_iv_ok hq hu
      have h := Option.some.inj h
      subst h
      refine ⟨.long z.toInt64, ⟨_, rfl, ?_, ?_⟩, fun k => lv_i2l hx hb hd rfl k⟩
      · rw [Int32.toInt_toInt64]; exact q1
      · rw [Int32.toInt_toInt64]; exact q2
    · cases h
  · split at h
    · rename_i q hq
      obtain ⟨z, rfl, q1, q2⟩ := nk_lv_ok hq hu
      split at h
      · rename_i q3
        rw [Bool.and_eq_true] at q3
        have q4 := Nat.le_of_ble_eq_true q3.1
        have q5 := Nat.le_of_ble_eq_true q3.2
        have h := Option.some.inj h
        subst h
        have e1 : (z.toInt32).toInt = z.toInt := by
          rw [Int64.toInt_toInt32, fb_bmod (by omega) (by omega)]
        exact ⟨.int z.toInt32, ⟨_, rfl, by dsimp only; omega, by dsimp only; omega⟩, fun k => lv_l2i hx hb hd rfl k⟩
      · cases h
        exact ⟨.int z.toInt32, nk_fl_ok _ _, fun k => lv_l2i hx hb hd rfl k⟩
    · cases h
  · cases h
theorem nk_o2_ok {H : Heap} {locs : List Loc} {ls : Array Slot} {rest : List Value} (hx : p.tables.exec = Jvm.exec) (hb : c.code = cc) {i : Instr} {u w v : nkV} (h : nk_o2 i u w = some v) (hd : decode cc pc = .ok (i, 1)) {x y : Value} (hu : nkOk E.2.2 u x) (hw : nkOk E.2.2 w y) :
    ∃ r, nkOk E.2.2 v r ∧ (W p l e R s m args below meth c H locs 0 0 Q (F0 m (pc + 1) ls (r :: rest)) → W p l e R s m args below meth c H locs 0 0 Q (F0 m pc ls (y :: x :: rest))) := by
  unfold nk_o2 at h
  split at h
  · rename_i q hq
    obtain ⟨a, rfl, -⟩ := nk_lv_ok hq hu
    split at h
    · rename_i q' hq'
      obtain ⟨b, rfl, -⟩ := nk_lv_ok hq' hw
      split at h
      · rename_i hs
        cases h
        cases hr : nh_lS i a b with
        | some r => exact ⟨_, nk_fL_ok _ r, fun k => nh_lW hx hb hr hd k⟩
        | none =>
          unfold nh_lS at hs hr
          split at hr
          all_goals first | (cases hr) | skip
          simp at hs
      · cases h
    · split at h
      · rename_i q' hq'
        obtain ⟨b, rfl, -⟩ := nk_iv_ok hq' hw
        split at h
        · rename_i hs
          cases h
          cases hr : nh_hS i a b with
          | some r => exact ⟨_, nk_fL_ok _ r, fun k => nh_hW hx hb hr hd k⟩
          | none =>
            unfold nh_hS at hs hr
            split at hr
            all_goals first | (cases hr) | skip
            simp at hs
        · cases h
      · cases h
  · cases h
theorem nk_sOp_ok (hx : p.tables.exec = Jvm.exec) (hb : c.code = cc) {i : Instr} {len : Nat} (hd : decode cc pc = .ok (i, len)) {S' : nkS} (h : nk_sOp S i len = some S')
    (k : nkGo p l e R s m args below meth c Q E nL Ws H0 n0 ρ0 (pc + len) S') : nkGo p l e R s m args below meth c Q E nL Ws H0 n0 ρ0 pc S := by
  intro hn ρ H locs ls st hρ hR
  have hX : ∀ x, nkX n0 ρ0 (updV ρ S.1 x) := fun x => hρ.tr hn (nkX.push S.1 ρ x)
  unfold nk_sOp at h
  split at h
  · split at h
    · rename_i v hv
      cases h
      obtain ⟨r, h1, h2⟩ := nk_k_ok (E := E) (H := H) (locs := locs) (Q := Q) (p := p) (l := l) (e := e) (R := R) (s := s) (m := m) (args := args) (below := below) (meth := meth) (ls := ls) (rest := st) hx hb hv hd
      exact h2 (k (Nat.le_succ_of_le hn) _ H locs ls _ (hX r) (nk_push_ok hR hR.2.2.1 h1))
    · cases h
  · split at h
    · rename_i x rest hst
      have hs := hR.2.2.1
      rw [hst] at hs
      obtain ⟨lx, xs, rfl, hs1⟩ := hs.inv1
      split at h
      · rename_i u hu
        split at h
        · rename_i hl
          have hl := Nat.eq_of_beq_eq_true hl
          subst hl
          split at h
          · rename_i v hv
            cases h
            obtain ⟨r, h1, h2⟩ := nk_o1_ok (E := E) (H := H) (locs := locs) (Q := Q) (p := p) (l := l) (e := e) (R := R) (s := s) (m := m) (args := args) (below := below) (meth := meth) (ls := ls) (rest := xs) hx hb hv hd (hR.1.1 x u hu)
            exact h2 (k (Nat.le_succ_of_le hn) _ H locs ls _ (hX r) (nk_push_ok hR hs1 h1))
          · cases h
        · cases h
      · cases h
    · cases h
  · split at h
    · rename_i y x rest hst
      have hs := hR.2.2.1
      rw [hst] at hs
      obtain ⟨ly, xs1, rfl, hs2⟩ := hs.inv1
      obtain ⟨lx, xs, rfl, hs1⟩ := hs2.inv1
      split at h
      · rename_i u w hu hw
        split at h
        · rename_i q r hq hr
          split at h
          · rename_i hl
            have hl := Nat.eq_of_beq_eq_true hl
            subst hl
            split at h
            · rename_i v hv
              cases h
              have gx := hR.1.1 x u hu
              have gy := hR.1.1 y w hw
              obtain ⟨a, ea, a1, a2⟩ := nk_iv_ok hq gx
              obtain ⟨b, eb, b1, b2⟩ := nk_iv_ok hr gy
              obtain ⟨z, z1, z2⟩ := nk_b_ok (Γ := E.2.2) hv a1 a2 b1 b2 (fun h => nk_nz_ok h (by rw [← eb]; exact gy))
              rw [ea, eb]
              refine nh_bW hx hb z1 hd (k (Nat.le_succ_of_le hn) _ H locs ls _ (hX (.int z)) ?_)
              have h1 := nk_push_ok (v := v) hR hs1 z2
              have hp := nkX.push S.1 ρ (.int z)
              exact nk_dif_ok h1 (nk_d0_ok (m := S.1 + 1) z1 (by omega) (by omega) (by omega) ((hp x lx).trans ea) ((hp y ly).trans eb) (nk_upd _ _ _) a1 a2 b1 b2)
            · cases h
          · cases h
        · cases h
      · cases h
    · cases h
  · split at h
    · rename_i y x rest hst
      have hs := hR.2.2.1
      rw [hst] at hs
      obtain ⟨ly, xs1, rfl, hs2⟩ := hs.inv1
      obtain ⟨lx, xs, rfl, hs1⟩ := hs2.inv1
      split at h
      · rename_i u w hu hw
        split at h
        · rename_i hl
          have hl := Nat.eq_of_beq_eq_true hl
          subst hl
          split at h
          · rename_i v hv
            cases h
            obtain ⟨r, h1, h2⟩ := nk_o2_ok (E := E) (H := H) (locs := locs) (Q := Q) (p := p) (l := l) (e := e) (R := R) (s := s) (m := m) (args := args) (below := below) (meth := meth) (ls := ls) (rest := xs) hx hb hv hd (hR.1.1 x u hu) (hR.1.1 y w hw)
            exact h2 (k (Nat.le_succ_of_le hn) _ H locs ls _ (hX r) (nk_push_ok hR hs1 h1))
          · cases h
        · cases h
      · cases h
    · cases h
  · split at h
    · rename_i y x rest hst
      have hs := hR.2.2.1
      rw [hst] at hs
      obtain ⟨ly, xs1, rfl, hs2⟩ := hs.inv1
      obtain ⟨lx, xs, rfl, hs1⟩ := hs2.inv1
      split at h
      · rename_i u w hu hw
        split at h
        · rename_i q r hq hr
          split at h
          · rename_i hl
            rw [Bool.and_eq_true] at hl
            have hl1 := Nat.eq_of_beq_eq_true hl.1
            have hl2 := of_decide_eq_true hl.2
            subst hl1 hl2
            cases h
            obtain ⟨a, ea, a1, a2⟩ := nk_lv_ok hq (hR.1.1 x u hu)
            obtain ⟨b, eb, b1, b2⟩ := nk_lv_ok hr (hR.1.1 y w hw)
            rw [ea, eb]
            refine W.lcmp hx hb hd (k (Nat.le_succ_of_le hn) _ H locs ls _ (hX (.int (lg_cmp a b))) ?_)
            have h1 := nk_push_ok (v := nk_cmpV q.1 q.2 r.1 r.2) hR hs1 (nk_cmp_ok a1 a2 b1 b2)
            have hp := nkX.push S.1 ρ (.int (lg_cmp a b))
            exact nk_con_ok h1 (nk_cmpC_ok (m := S.1 + 1) (by omega) (by omega) (by omega) (nk_upd _ _ _) ((hp x lx).trans ea) ((hp y ly).trans eb) a1 a2 b1 b2)
          · cases h
        · cases h
      · cases h
    · cases h
end NK32
