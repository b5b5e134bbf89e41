/-! branches -/
abbrev nkSu : Type := List (nkS × Nat)
/-- x ≤ y + c is taken in -/
def nk_asm (S : nkS) (x y c : Nat) : Option nkS := match nk_g S.2.1 S.1 x, nk_g S.2.1 S.1 y with
  | some u, some w => match nk_iv u, nk_iv w with
    | some q, some r => match nk_ref S x 0 (r.2 + c - 18446744073709551616) with
      | some S1 => match nk_ref S1 y (q.1 + 18446744073709551616 - c) 36893488147419103232 with
        | some S2 => some (S2.1, S2.2.1, S2.2.2.1, S2.2.2.2.1, S2.2.2.2.2.1, [(x, y, c)] ++ S2.2.2.2.2.2.1, S2.2.2.2.2.2.2)
        | none => none
      | none => none
    | _, _ => some S
  | _, _ => some S
section NK34
variable {E : nkE} {nL : Nat} {Ws : nkWs} {H0 : Heap} {S : nkS} {ρ : Nat → Value} {H : Heap} {locs : List Loc} {ls : Array Slot} {st : List Value}
theorem nk_wI {a : Int32} {lo hi : Nat} (h1 : (lo : Int) ≤ a.toInt + 18446744073709551616) (h2 : a.toInt + 18446744073709551616 ≤ (hi : Int)) : nkW (.int a) lo hi := Or.inl ⟨a, rfl, h1, h2⟩
theorem nk_asm_ok {x y c : Nat} {a b : Int32} (h : nkR E nL Ws H0 S ρ H locs ls st) (lx : x < S.1) (ly : y < S.1) (hx : ρ x = .int a) (hy : ρ y = .int b) (hc : a.toInt + 18446744073709551616 ≤ b.toInt + (c : Int)) : ∃ S', nk_asm S x y c = some S' ∧ S'.1 = S.1 ∧ nkR E nL Ws H0 S' ρ H locs ls st := by
  have ra := fb_rng a
  have rb := fb_rng b
  unfold nk_asm
  split
  · rename_i u w hu hw
    split
    · rename_i q r hq hr
      obtain ⟨a', e1, a1, a2⟩ := nk_iv_ok hq (h.1.1 x u hu)
      rw [hx] at e1
      cases e1
      obtain ⟨b', e2, b1, b2⟩ := nk_iv_ok hr (h.1.1 y w hw)
      rw [hy] at e2
      cases e2
      obtain ⟨S1, k1, k2, k3⟩ := nk_ref_ok (i := x) (lo := 0) (hi := r.2 + c - 18446744073709551616) h (by rw [hx]; exact nk_wI (by omega) (by omega))
      obtain ⟨S2, k4, k5, k6⟩ := nk_ref_ok (i := y) (lo := q.1 + 18446744073709551616 - c) (hi := 36893488147419103232) k3 (by rw [hy]; exact nk_wI (by omega) (by omega))
      rw [k1]
      dsimp only
      rw [k4]
      refine ⟨_, rfl, k5.trans k2, nk_dif_ok (l := [(x, y, c)]) k6 (fun d hd => ?_)⟩
      rw [List.mem_singleton] at hd
      subst hd
      exact ⟨by rw [k5, k2]; exact lx, by rw [k5, k2]; exact ly, a, b, hx, hy, hc⟩
    · exact ⟨S, rfl, rfl, h⟩
  · exact ⟨S, rfl, rfl, h⟩
def nk_nes (S : nkS) (x y : Nat) : Option nkS := match nk_g S.2.1 S.1 x, nk_g S.2.1 S.1 y with
  | some u, some w => match nk_iv u, nk_iv w with
    | some q, some r => match Nat.beq r.1 r.2 with
      | true => match Nat.beq q.1 r.1 with
        | true => nk_ref S x (q.1 + 1) 36893488147419103232
        | false => match Nat.beq q.2 r.1 with
          | true => nk_ref S x 0 (q.2 - 1)
          | false => some S
      | false => match Nat.beq q.1 q.2 with
        | true => match Nat.beq r.1 q.1 with
          | true => nk_ref S y (r.1 + 1) 36893488147419103232
          | false => match Nat.beq r.2 q.1 with
            | true => nk_ref S y 0 (r.2 - 1)
            | false => some S
        | false => some S
    | _, _ => some S
  | _, _ => some S
theorem nk_nes_ok {x y : Nat} {a b : Int32} (h : nkR E nL Ws H0 S ρ H locs ls st) (hx : ρ x = .int a) (hy : ρ y = .int b) (hc : a.toInt ≠ b.toInt) : ∃ S', nk_nes S x y = some S' ∧ S'.1 = S.1 ∧ nkR E nL Ws H0 S' ρ H locs ls st := by
  have ra := fb_rng a
  have rb := fb_rng b
  unfold nk_nes
  split
  · rename_i u w hu hw
    split
    · rename_i q r hq hr
      obtain ⟨a', e1, a1, a2⟩ := nk_iv_ok hq (h.1.1 x u hu)
      rw [hx] at e1
      cases e1
      obtain ⟨b', e2, b1, b2⟩ := nk_iv_ok hr (h.1.1 y w hw)
      rw [hy] at e2
      cases e2
      split
      · rename_i g1
        have g1 := Nat.eq_of_beq_eq_true g1
        split
        · rename_i g2
          have g2 := Nat.eq_of_beq_eq_true g2
          exact nk_ref_ok h (by rw [hx]; exact nk_wI (by omega) (by omega))
        · split
          · rename_i g2
            have g2 := Nat.eq_of_beq_eq_true g2
            exact nk_ref_ok h (by rw [hx]; exact nk_wI (by omega) (by omega))
          · exact ⟨S, rfl, rfl, h⟩
      · split
        · rename_i g1
          have g1 := Nat.eq_of_beq_eq_true g1
          split
          · rename_i g2
            have g2 := Nat.eq_of_beq_eq_true g2
            exact nk_ref_ok h (by rw [hy]; exact nk_wI (by omega) (by omega))
          · split
            · rename_i g2
              have g2 := Nat.eq_of_beq_eq_true g2
              exact nk_ref_ok h (by rw [hy]; exact nk_wI (by omega) (by omega))
            · exact ⟨S, rfl, rfl, h⟩
        · exact ⟨S, rfl, rfl, h⟩
    · exact ⟨S, rfl, rfl, h⟩
  · exact ⟨S, rfl, rfl, h⟩
def nk_bq (a b : Bool) : Bool := match a with
  | true => b
  | false => !b
theorem nk_bq_ok {a b : Bool} (h : nk_bq a b = true) : a = b := by
  cases a <;> cases b <;> first | rfl | cases h
def nk_app (co : List nkCo) (r : Nat) (nz : Bool) (S : nkS) : Option nkS := match co with
  | [] => some S
  | q :: t => match Nat.beq q.1 r && nk_bq q.2.1 nz with
    | true => match nk_ref S q.2.2.1 q.2.2.2.1 q.2.2.2.2 with
      | some S' => nk_app t r nz S'
      | none => none
    | false => nk_app t r nz S
theorem nk_app_ok {r : Nat} {nz : Bool} {a : Int32} (hr : ρ r = .int a) (hz : decide (a ≠ 0) = nz) {m : Nat} :
    ∀ {co : List nkCo} {S : nkS}, nkCn m ρ co → nkR E nL Ws H0 S ρ H locs ls st → ∃ S', nk_app co r nz S = some S' ∧ S'.1 = S.1 ∧ nkR E nL Ws H0 S' ρ H locs ls st
  | [], S, _, h => ⟨S, rfl, rfl, h⟩
  | q :: t, S, hc, h => by
    have ht : nkCn m ρ t := fun q hq => hc q (List.mem_cons_of_mem _ hq)
    unfold nk_app
    split
    · rename_i e
      rw [Bool.and_eq_true] at e
      have e1 := Nat.eq_of_beq_eq_true e.1
      have e2 := nk_bq_ok e.2
      obtain ⟨-, -, r', g1, g3⟩ := hc q List.mem_cons_self
      rw [e1, hr] at g1
      cases g1
      obtain ⟨S1, k1, k2, k3⟩ := nk_ref_ok h (g3 (by rw [hz, e2]))
      rw [k1]
      obtain ⟨S2, k4, k5, k6⟩ := nk_app_ok hr hz ht k3
      exact ⟨S2, k4, k5.trans k2, k6⟩
    · exact nk_app_ok hr hz ht h
def nk_cs (S : nkS) (cd : ClassFile.Cond) (x y : Nat) : Option nkS := match cd with
  | .lt => nk_asm S x y 18446744073709551615
  | .le => nk_asm S x y 18446744073709551616
  | .gt => nk_asm S y x 18446744073709551615
  | .ge => nk_asm S y x 18446744073709551616
  | .eq => match nk_asm S x y 18446744073709551616 with
    | some S1 => nk_asm S1 y x 18446744073709551616
    | none => none
  | .ne => nk_nes S x y
theorem nk_cs_ok {cd : ClassFile.Cond} {x y : Nat} {a b : Int32} (h : nkR E nL Ws H0 S ρ H locs ls st) (lx : x < S.1) (ly : y < S.1) (hx : ρ x = .int a) (hy : ρ y = .int b) (hc : nh_cr cd a.toInt b.toInt = true) : ∃ S', nk_cs S cd x y = some S' ∧ S'.1 = S.1 ∧ nkR E nL Ws H0 S' ρ H locs ls st := by
  cases cd <;> simp only [nh_cr, decide_eq_true_eq] at hc <;> unfold nk_cs <;> dsimp only
  · obtain ⟨S1, k1, k2, k3⟩ := nk_asm_ok (c := 18446744073709551616) h lx ly hx hy (by omega)
    rw [k1]
    obtain ⟨S2, k4, k5, k6⟩ := nk_asm_ok (c := 18446744073709551616) k3 (by rw [k2]; exact ly) (by rw [k2]; exact lx) hy hx (by omega)
    exact ⟨S2, k4, k5.trans k2, k6⟩
  · exact nk_nes_ok h hx hy hc
  · exact nk_asm_ok h lx ly hx hy (by omega)
  · exact nk_asm_ok h ly lx hy hx (by omega)
  · exact nk_asm_ok h ly lx hy hx (by omega)
  · exact nk_asm_ok h lx ly hx hy (by omega)
/-- x is not 0 -/
def nk_nz0 (S : nkS) (x : Nat) : Option nkS := match nk_g S.2.1 S.1 x with
  | some v => match v.1 with
    | 0 => match Nat.beq v.2.1 18446744073709551616 with
      | true => nk_ref S x 18446744073709551617 36893488147419103232
      | false => match Nat.beq v.2.2 18446744073709551616 with
        | true => nk_ref S x 0 18446744073709551615
        | false => some (nk_set S x (5, v.2))
    | _ => some S
  | none => some S
theorem nk_nz0_ok {x : Nat} {a : Int32} (h : nkR E nL Ws H0 S ρ H locs ls st) (hx : ρ x = .int a) (hc : a.toInt ≠ 0) : ∃ S', nk_nz0 S x = some S' ∧ S'.1 = S.1 ∧ nkR E nL Ws H0 S' ρ H locs ls st := by
  have ra := fb_rng a
  unfold nk_nz0
  split
  · rename_i v hv
    have hok := h.1.1 x v hv
    obtain ⟨t, lo, hi⟩ := v
    dsimp only
    split
    · obtain ⟨z, e, q1, q2⟩ := hok
      rw [hx] at e
      cases e
      dsimp only at q1 q2
      split
      · rename_i g
        have g := Nat.eq_of_beq_eq_true g
        exact nk_ref_ok h (by rw [hx]; exact nk_wI (by omega) (by omega))
      · split
        · rename_i g
          have g := Nat.eq_of_beq_eq_true g
          exact nk_ref_ok h (by rw [hx]; exact nk_wI (by omega) (by omega))
        · exact ⟨_, rfl, rfl, nk_set_ok h ⟨a, hx, hc, q1, q2⟩⟩
    · exact ⟨S, rfl, rfl, h⟩
  · exact ⟨S, rfl, rfl, h⟩
def nk_no5 (S : nkS) (x : Nat) : Bool := match nk_g S.2.1 S.1 x with
  | some v => nk_nz v
  | none => false
def nk_zs (S : nkS) (cd : ClassFile.Cond) (x : Nat) : Option nkS := match cd with
  | .lt => nk_ref S x 0 18446744073709551615
  | .le => nk_ref S x 0 18446744073709551616
  | .gt => nk_ref S x 18446744073709551617 36893488147419103232
  | .ge => nk_ref S x 18446744073709551616 36893488147419103232
  | .eq => match nk_no5 S x with
    | true => none
    | false => match nk_ref S x 18446744073709551616 18446744073709551616 with
      | some S1 => nk_app S1.2.2.2.2.2.2 x false S1
      | none => none
  | .ne => match nk_nz0 S x with
    | some S1 => nk_app S1.2.2.2.2.2.2 x true S1
    | none => none
theorem nk_zs_ok {cd : ClassFile.Cond} {x : Nat} {a : Int32} (h : nkR E nL Ws H0 S ρ H locs ls st) (hx : ρ x = .int a) (hc : nh_cr cd a.toInt 0 = true) : ∃ S', nk_zs S cd x = some S' ∧ S'.1 = S.1 ∧ nkR E nL Ws H0 S' ρ H locs ls st := by
  have hr := fb_rng a
  have z0 : a = 0 ↔ a.toInt = 0 := by rw [← Int32.toInt_inj]; rfl
  cases cd <;> simp only [nh_cr, decide_eq_true_eq] at hc <;> unfold nk_zs <;> dsimp only
  · split
    · rename_i g
      exfalso
      unfold nk_no5 at g
      split at g
      · rename_i v hv
        have := nk_nz_ok g (by rw [← hx]; exact h.1.1 x v hv)
        exact this hc
      · cases g
    · obtain ⟨S1, k1, k2, k3⟩ := nk_ref_ok (i := x) (lo := 18446744073709551616) (hi := 18446744073709551616) h (by rw [hx]; exact nk_wI (by omega) (by omega))
      rw [k1]
      obtain ⟨S2, k4, k5, k6⟩ := nk_app_ok hx (nz := false) (by simp [z0, hc]) k3.1.2.2.2.1 k3
      exact ⟨S2, k4, k5.trans k2, k6⟩
  · obtain ⟨S1, k1, k2, k3⟩ := nk_nz0_ok h hx hc
    rw [k1]
    obtain ⟨S2, k4, k5, k6⟩ := nk_app_ok hx (nz := true) (by simp [z0, hc]) k3.1.2.2.2.1 k3
    exact ⟨S2, k4, k5.trans k2, k6⟩
  · exact nk_ref_ok h (by rw [hx]; exact nk_wI (by omega) (by omega))
  · exact nk_ref_ok h (by rw [hx]; exact nk_wI (by omega) (by omega))
  · exact nk_ref_ok h (by rw [hx]; exact nk_wI (by omega) (by omega))
  · exact nk_ref_ok h (by rw [hx]; exact nk_wI (by omega) (by omega))
end NK34
def nk_isI (S : nkS) (x : Nat) : Bool := match nk_g S.2.1 S.1 x with
  | some v => Nat.beq (nk_cat v) 0
  | none => false
theorem nk_isI_ok {E : nkE} {S : nkS} {ρ : Nat → Value} {x : Nat} (h : nkAll E.2.2 S.1 S.2.1 ρ) (hi : nk_isI S x = true) : x < S.1 ∧ ∃ a : Int32, ρ x = .int a := by
  unfold nk_isI at hi
  split at hi
  · rename_i w hw
    exact ⟨nk_g_lt hw, (nk_cat_ok (h x w hw)).1 (Nat.eq_of_beq_eq_true hi)⟩
  · cases hi
def nk_at (o : Option nkS) (t : Nat) : nkSu := match o with
  | some S => [(S, t)]
  | none => []
theorem nk_at_mem {S' : nkS} {o : Option nkS} {t : Nat} (h : o = some S') : (S', t) ∈ nk_at o t := by
  subst h; exact List.mem_cons_self
/-- where a jump goes -/
def nk_tg (pc : Nat) (off : Int) : Nat := ((pc : Int) + off).toNat
def nk_tgB (pc : Nat) (off : Int) : Bool := decide (0 ≤ (pc : Int) + off)
theorem nk_tg_ok {pc : Nat} {off : Int} (h : nk_tgB pc off = true) : (pc : Int) + off = (nk_tg pc off : Int) := by
  have := of_decide_eq_true h
  unfold nk_tg
  omega
/-- the ways of a table: those of its places from k on -/
def nk_tab (S : nkS) (x pc : Nat) : Nat → List Int → Option nkSu
  | _, [] => some []
  | k, o :: r => match nk_tgB pc o, nk_tab S x pc (k + 1) r with
    | true, some l => some (nk_at (nk_ref S x k k) (nk_tg pc o) ++ l)
    | _, _ => none
def nk_look (S : nkS) (x pc : Nat) : List (Int × Int) → Option nkSu
  | [] => some []
  | q :: r => match nk_tgB pc q.2, nk_look S x pc r with
    | true, some l => some (nk_at (nk_ref S x (nk_cI q.1) (nk_cI q.1)) (nk_tg pc q.2) ++ l)
    | _, _ => none
def nk_nul (S : nkS) (x : Nat) : Option Nat := match nk_g S.2.1 S.1 x with
  | some v => match v.1 with
    | 2 => some 2
    | 3 => some 3
    | _ => none
  | none => none
def nk_nn (S : nkS) (x : Nat) : nkS := match nk_g S.2.1 S.1 x with
  | some v => nk_set S x (2, v.2)
  | none => S
def nk_sBr (S : nkS) (pc : Nat) (i : Instr) (len : Nat) : Option nkSu := match i with
  | .if_icmp cd off => match S.2.2.2.1 with
    | y :: x :: rest => match Nat.beq len 3 && (nk_tgB pc off && (nk_isI S x && nk_isI S y)) with
      | true => some (nk_at (nk_cs (S.1, S.2.1, S.2.2.1, rest, S.2.2.2.2) cd x y) (nk_tg pc off) ++ nk_at (nk_cs (S.1, S.2.1, S.2.2.1, rest, S.2.2.2.2) (nh_neg cd) x y) (pc + 3))
      | false => none
    | _ => none
  | .ifCond cd off => match S.2.2.2.1 with
    | x :: rest => match Nat.beq len 3 && (nk_tgB pc off && nk_isI S x) with
      | true => some (nk_at (nk_zs (S.1, S.2.1, S.2.2.1, rest, S.2.2.2.2) cd x) (nk_tg pc off) ++ nk_at (nk_zs (S.1, S.2.1, S.2.2.1, rest, S.2.2.2.2) (nh_neg cd) x) (pc + 3))
      | false => none
    | [] => none
  | .goto off => match Nat.beq len 3 && nk_tgB pc off with
    | true => some [(S, nk_tg pc off)]
    | false => none
  | .ifnull off => match S.2.2.2.1 with
    | x :: rest => match Nat.beq len 3 && nk_tgB pc off with
      | true => match nk_nul S x with
        | some 2 => some [((S.1, S.2.1, S.2.2.1, rest, S.2.2.2.2), pc + 3)]
        | some 3 => some [((S.1, S.2.1, S.2.2.1, rest, S.2.2.2.2), nk_tg pc off), (nk_nn (S.1, S.2.1, S.2.2.1, rest, S.2.2.2.2) x, pc + 3)]
        | _ => none
      | false => none
    | [] => none
  | .ifnonnull off => match S.2.2.2.1 with
    | x :: rest => match Nat.beq len 3 && nk_tgB pc off with
      | true => match nk_nul S x with
        | some 2 => some [((S.1, S.2.1, S.2.2.1, rest, S.2.2.2.2), nk_tg pc off)]
        | some 3 => some [((S.1, S.2.1, S.2.2.1, rest, S.2.2.2.2), pc + 3), (nk_nn (S.1, S.2.1, S.2.2.1, rest, S.2.2.2.2) x, nk_tg pc off)]
        | _ => none
      | false => none
    | [] => none
  | .tableswitch d lo hi offs => match S.2.2.2.1 with
    | x :: rest => match nk_tab (S.1, S.2.1, S.2.2.1, rest, S.2.2.2.2) x pc (nk_cI lo) offs.toList with
      | some l => match nk_tgB pc d && (nk_isI S x && (Nat.ble 18446744071562067968 (nk_cI lo) && (Nat.ble (nk_cI hi) 18446744075857035263 && Nat.blt (nk_cI hi) (nk_cI lo + offs.toList.length)))) with
        | true => some (nk_at (nk_ref (S.1, S.2.1, S.2.2.1, rest, S.2.2.2.2) x 0 (nk_cI lo - 1)) (nk_tg pc d) ++ (nk_at (nk_ref (S.1, S.2.1, S.2.2.1, rest, S.2.2.2.2) x (nk_cI hi + 1) 36893488147419103232) (nk_tg pc d) ++ l))
        | false => none
      | none => none
    | [] => none
  | .lookupswitch d ps => match S.2.2.2.1 with
    | x :: rest => match nk_look (S.1, S.2.1, S.2.2.1, rest, S.2.2.2.2) x pc ps.toList with
      | some l => match nk_tgB pc d && (nk_isI S x && (ps.toList.zip (ps.toList.drop 1)).all (fun (a, next) => a.1 < next.1)) with
        | true => some (((S.1, S.2.1, S.2.2.1, rest, S.2.2.2.2), nk_tg pc d) :: l)
        | false => none
      | none => none
    | [] => none
  | _ => none
section NK34b
variable {p : Program} {l : Launch} {e : Env} {R : Room} {s : State} {m : MethodId} {args : Array Value} {below : List Frame} {meth : Method} {c : Code} {Q : State → Prop}
variable {cc : ByteArray} {E : nkE} {nL : Nat} {Ws : nkWs} {H0 : Heap} {n0 : Nat} {ρ0 : Nat → Value} {pc : Nat} {S : nkS}
theorem nk_tab_mem {S' : nkS} {x pc : Nat} : ∀ {offs : List Int} {k : Nat} {l : nkSu} {j : Nat} {o : Int}, nk_tab S x pc k offs = some l → offs[j]? = some o → nk_ref S x (k + j) (k + j) = some S' → nk_tgB pc o = true ∧ (S', nk_tg pc o) ∈ l
  | [], k, l, j, o, _, h, _ => by simp at h
  | o' :: r, k, l, j, o, h, hj, hr => by
    unfold nk_tab at h
    split at h
    · rename_i l' ht hl
      cases h
      cases j with
      | zero =>
        rw [List.getElem?_cons_zero] at hj
        cases hj
        exact ⟨ht, List.mem_append_left _ (nk_at_mem hr)⟩
      | succ j =>
        rw [List.getElem?_cons_succ] at hj
        obtain ⟨h1, h2⟩ := nk_tab_mem hl hj (by rw [show k + 1 + j = k + (j + 1) by omega]; exact hr)
        exact ⟨h1, List.mem_append_right _ h2⟩
    · cases h
theorem nk_look_ok {ρ : Nat → Value} {H : Heap} {locs : List Loc} {ls : Array Slot} {st : List Value} {x : Nat} {a : Int32} (hR : nkR E nL Ws H0 S ρ H locs ls st) (hx : ρ x = .int a) (d : Int) :
    ∀ {ps : List (Int × Int)} {l : nkSu}, nk_look S x pc ps = some l → Op.lookupswitch.offset ps d a.toInt = d ∨ ∃ (t : Nat) (S' : nkS), (pc : Int) + Op.lookupswitch.offset ps d a.toInt = (t : Int) ∧ (S', t) ∈ l ∧ S'.1 = S.1 ∧ nkR E nL Ws H0 S' ρ H locs ls st
  | [], l, _ => Or.inl rfl
  | q :: r, l, h => by
    have ra := fb_rng a
    unfold nk_look at h
    split at h
    · rename_i l' ht hl
      cases h
      rw [Op.lookupswitch.offset_cons]
      split
      · rename_i hq
        have hc : (nk_cI q.1 : Int) = a.toInt + 18446744073709551616 := by
          unfold nk_cI
          omega
        obtain ⟨S1, k1, k2, k3⟩ := nk_ref_ok (i := x) (lo := nk_cI q.1) (hi := nk_cI q.1) hR (by rw [hx]; exact nk_wI (by omega) (by omega))
        exact Or.inr ⟨_, S1, nk_tg_ok ht, List.mem_append_left _ (nk_at_mem k1), k2, k3⟩
      · rcases nk_look_ok hR hx d hl with h1 | ⟨t', S', h1, h2, h3⟩
        · exact Or.inl h1
        · exact Or.inr ⟨t', S', h1, List.mem_append_right _ h2, h3⟩
    · cases h
theorem nk_nul_ok {ρ : Nat → Value} {x k : Nat} (hA : nkAll E.2.2 S.1 S.2.1 ρ) (h : nk_nul S x = some k) : (k = 2 → ∃ a : Nat, ρ x = .ref a) ∧ (k = 3 → ρ x = .null ∨ ∃ a : Nat, ρ x = .ref a ∧ ∀ v, nk_g S.2.1 S.1 x = some v → nkOk E.2.2 (2, v.2) (ρ x)) := by
  unfold nk_nul at h
  split at h
  · rename_i v hv
    have hok := hA x v hv
    obtain ⟨t, lo, hi⟩ := v
    dsimp only at h
    split at h
    · cases h
      obtain ⟨a, e, -⟩ := hok
      exact ⟨fun _ => ⟨a, e⟩, fun q => absurd q (by decide)⟩
    · cases h
      refine ⟨fun q => absurd q (by decide), fun _ => ?_⟩
      rcases hok with hok | ⟨a, e, h1⟩
      · exact Or.inl hok
      · exact Or.inr ⟨a, e, fun w hw => by
          rw [hv] at hw
          cases hw
          exact ⟨a, e, h1⟩⟩
    · cases h
  · cases h
theorem nk_nn_ok {ρ : Nat → Value} {H : Heap} {locs : List Loc} {ls : Array Slot} {st : List Value} {x : Nat} (hR : nkR E nL Ws H0 S ρ H locs ls st) (h : ∀ v, nk_g S.2.1 S.1 x = some v → nkOk E.2.2 (2, v.2) (ρ x)) : (nk_nn S x).1 = S.1 ∧ nkR E nL Ws H0 (nk_nn S x) ρ H locs ls st := by
  unfold nk_nn
  split
  · rename_i v hv
    exact ⟨rfl, nk_set_ok hR (h v hv)⟩
  · exact ⟨rfl, hR⟩
theorem nk_sBr_ok (hx : p.tables.exec = Jvm.exec) (hb : c.code = cc) {i : Instr} {len : Nat} (hd : decode cc pc = .ok (i, len)) {L : nkSu} (h : nk_sBr S pc i len = some L)
    (k : ∀ q ∈ L, nkGo p l e R s m args below meth c Q E nL Ws H0 n0 ρ0 q.2 q.1) : nkGo p l e R s m args below meth c Q E nL Ws H0 n0 ρ0 pc S := by
  intro hn ρ H locs ls st hρ hR
  have hs := hR.2.2.1
  unfold nk_sBr at h
  split at h
  · split at h
    · rename_i y x rest hst
      rw [hst] at hs
      obtain ⟨ly, st1, rfl, hs1⟩ := hs.inv1
      obtain ⟨lx, st2, rfl, hs2⟩ := hs1.inv1
      split at h
      · rename_i hc
        simp only [Bool.and_eq_true] at hc
        have c0 := Nat.eq_of_beq_eq_true hc.1
        have c1 := nk_tg_ok hc.2.1
        subst c0
        cases h
        obtain ⟨-, a, ea⟩ := nk_isI_ok (E := E) hR.1.1 hc.2.2.1
        obtain ⟨-, b, eb⟩ := nk_isI_ok (E := E) hR.1.1 hc.2.2.2
        have hR' := nk_stack_ok hR hs2
        rw [ea, eb]
        refine nh_icW hx hb hd c1 (fun hc => ?_) (fun hc => ?_)
        · obtain ⟨S1, k1, k2, k3⟩ := nk_cs_ok hR' lx ly ea eb hc
          exact k (S1, _) (List.mem_append_left _ (nk_at_mem k1)) (by show n0 ≤ S1.1; rw [k2]; exact hn) ρ H locs ls _ hρ k3
        · obtain ⟨S1, k1, k2, k3⟩ := nk_cs_ok hR' lx ly ea eb (nh_neg_ok _ hc)
          exact k (S1, pc + 3) (List.mem_append_right _ (nk_at_mem k1)) (by show n0 ≤ S1.1; rw [k2]; exact hn) ρ H locs ls _ hρ k3
      · cases h
    · cases h
  · split at h
    · rename_i x rest hst
      rw [hst] at hs
      obtain ⟨lx, st2, rfl, hs2⟩ := hs.inv1
      split at h
      · rename_i hc
        simp only [Bool.and_eq_true] at hc
        have c0 := Nat.eq_of_beq_eq_true hc.1
        have c1 := nk_tg_ok hc.2.1
        subst c0
        cases h
        obtain ⟨-, a, ea⟩ := nk_isI_ok (E := E) hR.1.1 hc.2.2
        have hR' := nk_stack_ok hR hs2
        rw [ea]
        refine nh_ifW hx hb hd c1 (fun hc => ?_) (fun hc => ?_)
        · obtain ⟨S1, k1, k2, k3⟩ := nk_zs_ok hR' ea hc
          exact k (S1, _) (List.mem_append_left _ (nk_at_mem k1)) (by show n0 ≤ S1.1; rw [k2]; exact hn) ρ H locs ls _ hρ k3
        · obtain ⟨S1, k1, k2, k3⟩ := nk_zs_ok hR' ea (nh_neg_ok _ hc)
          exact k (S1, pc + 3) (List.mem_append_right _ (nk_at_mem k1)) (by show n0 ≤ S1.1; rw [k2]; exact hn) ρ H locs ls _ hρ k3
      · cases h
    · cases h
  · split at h
    · rename_i hc
      rw [Bool.and_eq_true] at hc
      have c0 := Nat.eq_of_beq_eq_true hc.1
      have c1 := nk_tg_ok hc.2
      subst c0
      cases h
      exact lv_goto hx hb hd c1 (k (S, _) List.mem_cons_self hn ρ H locs ls st hρ hR)
    · cases h
  · split at h
    · rename_i x rest hst
      rw [hst] at hs
      obtain ⟨lx, st2, rfl, hs2⟩ := hs.inv1
      have hR' := nk_stack_ok hR hs2
      split at h
      · rename_i hc
        rw [Bool.and_eq_true] at hc
        have c0 := Nat.eq_of_beq_eq_true hc.1
        have c1 := nk_tg_ok hc.2
        subst c0
        split at h
        · rename_i hu
          cases h
          obtain ⟨a, ea⟩ := (nk_nul_ok (E := E) hR.1.1 hu).1 rfl
          rw [ea]
          exact lv_ifnull hx hb hd (k (_, pc + 3) List.mem_cons_self hn ρ H locs ls _ hρ hR')
        · rename_i hu
          cases h
          rcases (nk_nul_ok (E := E) hR.1.1 hu).2 rfl with ea | ⟨a, ea, hv⟩
          · rw [ea]
            exact lv_ifnullN hx hb hd c1 (k (_, _) List.mem_cons_self hn ρ H locs ls _ hρ hR')
          · obtain ⟨k1, k2⟩ := nk_nn_ok (x := x) hR' hv
            rw [ea]
            exact lv_ifnull hx hb hd (k (_, pc + 3) (List.mem_cons_of_mem _ List.mem_cons_self) (by show n0 ≤ (nk_nn _ x).1; rw [k1]; exact hn) ρ H locs ls _ hρ k2)
        · cases h
      · cases h
    · cases h
  · split at h
    · rename_i x rest hst
      rw [hst] at hs
      obtain ⟨lx, st2, rfl, hs2⟩ := hs.inv1
      have hR' := nk_stack_ok hR hs2
      split at h
      · rename_i hc
        rw [Bool.and_eq_true] at hc
        have c0 := Nat.eq_of_beq_eq_true hc.1
        have c1 := nk_tg_ok hc.2
        subst c0
        split at h
        · rename_i hu
          cases h
          obtain ⟨a, ea⟩ := (nk_nul_ok (E := E) hR.1.1 hu).1 rfl
          rw [ea]
          exact lv_ifnonnull hx hb hd c1 (k (_, _) List.mem_cons_self hn ρ H locs ls _ hρ hR')
        · rename_i hu
          cases h
          rcases (nk_nul_ok (E := E) hR.1.1 hu).2 rfl with ea | ⟨a, ea, hv⟩
          · rw [ea]
            exact lv_ifnonnullN hx hb hd (k (_, pc + 3) List.mem_cons_self hn ρ H locs ls _ hρ hR')
          · obtain ⟨k1, k2⟩ := nk_nn_ok (x := x) hR' hv
            rw [ea]
            exact lv_ifnonnull hx hb hd c1 (k (_, _) (List.mem_cons_of_mem _ List.mem_cons_self) (by show n0 ≤ (nk_nn _ x).1; rw [k1]; exact hn) ρ H locs ls _ hρ k2)
        · cases h
      · cases h
    · cases h
  · rename_i d lo hi offs
    split at h
    · rename_i x rest hst
      rw [hst] at hs
      obtain ⟨lx, st2, rfl, hs2⟩ := hs.inv1
      have hR' := nk_stack_ok hR hs2
      split at h
      · rename_i l' hl'
        split at h
        · rename_i hc
          simp only [Bool.and_eq_true] at hc
          have c1 := nk_tg_ok hc.1
          have c2 := Nat.le_of_ble_eq_true hc.2.2.1
          have c3 := Nat.le_of_ble_eq_true hc.2.2.2.1
          have c4 := nk_blt hc.2.2.2.2
          have h := Option.some.inj h
          subst h
          obtain ⟨-, a, ea⟩ := nk_isI_ok (E := E) hR.1.1 hc.2.1
          have hr := fb_rng a
          have elo : (nk_cI lo : Int) = lo + 18446744073709551616 := by
            unfold nk_cI at c2 ⊢
            omega
          have ehi : (nk_cI hi : Int) = hi + 18446744073709551616 ∨ (hi + 18446744073709551616 < 0 ∧ nk_cI hi = 0) := by
            unfold nk_cI
            omega
          rw [ea]
          by_cases h1 : a.toInt < lo
          · obtain ⟨S1, k1, k2, k3⟩ := nk_ref_ok (i := x) (lo := 0) (hi := nk_cI lo - 1) hR' (by rw [ea]; exact nk_wI (by omega) (by omega))
            exact lv_tableOut hx hb hd (Or.inl h1) c1 (k (S1, _) (List.mem_append_left _ (nk_at_mem k1)) (by show n0 ≤ S1.1; rw [k2]; exact hn) ρ H locs ls _ hρ k3)
          · by_cases h2 : hi < a.toInt
            · obtain ⟨S1, k1, k2, k3⟩ := nk_ref_ok (i := x) (lo := nk_cI hi + 1) (hi := 36893488147419103232) hR' (by rw [ea]; refine nk_wI ?_ (by omega); rcases ehi with q | q <;> omega)
              exact lv_tableOut hx hb hd (Or.inr h2) c1 (k (S1, _) (List.mem_append_right _ (List.mem_append_left _ (nk_at_mem k1))) (by show n0 ≤ S1.1; rw [k2]; exact hn) ρ H locs ls _ hρ k3)
            · have hlt : (a.toInt - lo).toNat < offs.toList.length := by rcases ehi with q | q <;> omega
              have ho : offs.toList[(a.toInt - lo).toNat]? = some (offs.toList[(a.toInt - lo).toNat]) := List.getElem?_eq_getElem hlt
              obtain ⟨S1, k1, k2, k3⟩ := nk_ref_ok (i := x) (lo := nk_cI lo + (a.toInt - lo).toNat) (hi := nk_cI lo + (a.toInt - lo).toNat) hR' (by rw [ea]; exact nk_wI (by omega) (by omega))
              obtain ⟨m1, m2⟩ := nk_tab_mem hl' ho k1
              exact lv_tableIn hx hb hd h1 h2 (by rw [← Array.getElem?_toList]; exact ho) (nk_tg_ok m1) (k (S1, _) (List.mem_append_right _ (List.mem_append_right _ m2)) (by show n0 ≤ S1.1; rw [k2]; exact hn) ρ H locs ls _ hρ k3)
        · cases h
      · cases h
    · cases h
  · rename_i d ps
    split at h
    · rename_i x rest hst
      rw [hst] at hs
      obtain ⟨lx, st2, rfl, hs2⟩ := hs.inv1
      have hR' := nk_stack_ok hR hs2
      split at h
      · rename_i l' hl'
        split at h
        · rename_i hc
          rw [Bool.and_eq_true, Bool.and_eq_true] at hc
          have c1 := nk_tg_ok hc.1
          cases h
          obtain ⟨-, a, ea⟩ := nk_isI_ok (E := E) hR.1.1 hc.2.1
          rw [ea]
          rcases nk_look_ok hR' ea d hl' with h1 | ⟨t', S', h1, h2, h3, h4⟩
          · exact lv_lookup hx hb hd hc.2.2 h1 c1 (k (_, _) List.mem_cons_self hn ρ H locs ls _ hρ hR')
          · exact lv_lookup hx hb hd hc.2.2 rfl h1 (k (S', t') (List.mem_cons_of_mem _ h2) (by show n0 ≤ S'.1; rw [h3]; exact hn) ρ H locs ls _ hρ h4)
        · cases h
      · cases h
    · cases h
  · cases h
end NK34b
