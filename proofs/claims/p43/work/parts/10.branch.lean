/-! branches -/
abbrev nhSu : Type := List (nhS × Nat)
/-- x ≤ y + c is taken in -/
def nh_asm (S : nhS) (x y : Nat) (c : Int) : Option nhS := match S.1[x]?, S.1[y]? with
  | some u, some w => match nh_iv u, nh_iv w with
    | some q, some r => match nh_ref S x q.1 (r.2 + c) with
      | some S1 => match nh_ref S1 y (q.1 - c) r.2 with
        | some S2 => some (S2.1, S2.2.1, S2.2.2.1, S2.2.2.2.1, [(x, y, c)] ++ S2.2.2.2.2.1, S2.2.2.2.2.2)
        | none => none
      | none => none
    | _, _ => some S
  | _, _ => some S
theorem nh_asm_ok {E : nhE} {nL : Nat} {pu : Bool} {H0 : Heap} {S : nhS} {ρ : List Value} {H : Heap} {locs : List Loc} {ls : Array Slot} {st : List Value} {x y : Nat} {c : Int} {a b : Int32}
    (h : nhR E nL pu H0 S ρ H locs ls st) (hx : ρ[x]? = some (.int a)) (hy : ρ[y]? = some (.int b)) (hc : a.toInt ≤ b.toInt + c) : ∃ S', nh_asm S x y c = some S' ∧ nhR E nL pu H0 S' ρ H locs ls st := by
  unfold nh_asm
  split
  · rename_i u w hu hw
    split
    · rename_i q r hq hr
      obtain ⟨x', g1, g2⟩ := h.1.2 x u hu
      rw [hx] at g1; cases g1
      obtain ⟨y', g3, g4⟩ := h.1.2 y w hw
      rw [hy] at g3; cases g3
      obtain ⟨a', e1, a1, a2⟩ := nh_iv_ok hq g2
      cases e1
      obtain ⟨b', e2, b1, b2⟩ := nh_iv_ok hr g4
      cases e2
      obtain ⟨S1, k1, k2⟩ := nh_ref_ok h hx a1 (show a.toInt ≤ r.2 + c by omega)
      obtain ⟨S2, k3, k4⟩ := nh_ref_ok k2 hy (show q.1 - c ≤ b.toInt by omega) b2
      rw [k1]
      dsimp only
      rw [k3]
      refine ⟨_, rfl, nh_dif_ok (l := [(x, y, c)]) k4 (fun d hd => ?_)⟩
      rw [List.mem_singleton] at hd
      subst hd
      exact ⟨a, b, hx, hy, hc⟩
    · exact ⟨S, rfl, h⟩
  · exact ⟨S, rfl, h⟩
def nh_nes (S : nhS) (x y : Nat) : Option nhS := match S.1[x]?, S.1[y]? with
  | some (0, a, b), some (0, c, d) =>
    if c = d ∧ a = c then nh_ref S x (a + 1) b
    else if c = d ∧ b = c then nh_ref S x a (b - 1)
    else if a = b ∧ c = a then nh_ref S y (c + 1) d
    else if a = b ∧ d = a then nh_ref S y c (d - 1)
    else some S
  | _, _ => some S
theorem nh_nes_ok {E : nhE} {nL : Nat} {pu : Bool} {H0 : Heap} {S : nhS} {ρ : List Value} {H : Heap} {locs : List Loc} {ls : Array Slot} {st : List Value} {x y : Nat} {a b : Int32}
    (h : nhR E nL pu H0 S ρ H locs ls st) (hx : ρ[x]? = some (.int a)) (hy : ρ[y]? = some (.int b)) (hc : a.toInt ≠ b.toInt) : ∃ S', nh_nes S x y = some S' ∧ nhR E nL pu H0 S' ρ H locs ls st := by
  unfold nh_nes
  split
  · rename_i u v w z hu hw
    obtain ⟨x', g1, a', e1, a1, a2⟩ := h.1.2 x _ hu
    rw [hx] at g1; cases g1; cases e1
    obtain ⟨y', g3, b', e2, b1, b2⟩ := h.1.2 y _ hw
    rw [hy] at g3; cases g3; cases e2
    dsimp only at a1 a2 b1 b2
    split
    · exact nh_ref_ok h hx (by omega) (by omega)
    · split
      · exact nh_ref_ok h hx (by omega) (by omega)
      · split
        · exact nh_ref_ok h hy (by omega) (by omega)
        · split
          · exact nh_ref_ok h hy (by omega) (by omega)
          · exact ⟨S, rfl, h⟩
  · exact ⟨S, rfl, h⟩
def nh_app (co : List nhCo) (r : Nat) (nz : Bool) (S : nhS) : Option nhS := match co with
  | [] => some S
  | q :: t => if q.1 == r && q.2.1 == nz then (match nh_ref S q.2.2.1 q.2.2.2.1 q.2.2.2.2 with
    | some S' => nh_app t r nz S'
    | none => none) else nh_app t r nz S
theorem nh_app_ok {E : nhE} {nL : Nat} {pu : Bool} {H0 : Heap} {ρ : List Value} {H : Heap} {locs : List Loc} {ls : Array Slot} {st : List Value} {r : Nat} {nz : Bool} {a : Int32} (hr : ρ[r]? = some (.int a)) (hz : decide (a ≠ 0) = nz) :
    ∀ {co : List nhCo} {S : nhS}, nhCn ρ co → nhR E nL pu H0 S ρ H locs ls st → ∃ S', nh_app co r nz S = some S' ∧ nhR E nL pu H0 S' ρ H locs ls st
  | [], S, _, h => ⟨S, rfl, h⟩
  | q :: t, S, hc, h => by
    have ht : nhCn ρ t := fun q hq => hc q (List.mem_cons_of_mem _ hq)
    unfold nh_app
    split
    · rename_i e
      simp only [Bool.and_eq_true, beq_iff_eq] at e
      obtain ⟨r', b, g1, g2, g3⟩ := hc q List.mem_cons_self
      rw [e.1, hr] at g1; cases g1
      have g4 := g3 (by rw [hz, e.2])
      obtain ⟨S1, k1, k2⟩ := nh_ref_ok h g2 g4.1 g4.2
      rw [k1]
      exact nh_app_ok hr hz ht k2
    · exact nh_app_ok hr hz ht h
/-- a condition on two ints -/
def nh_cr (cd : ClassFile.Cond) (a b : Int) : Bool := match cd with
  | .eq => decide (a = b)
  | .ne => decide (a ≠ b)
  | .lt => decide (a < b)
  | .ge => decide (b ≤ a)
  | .gt => decide (b < a)
  | .le => decide (a ≤ b)
def nh_neg (cd : ClassFile.Cond) : ClassFile.Cond := match cd with
  | .eq => .ne
  | .ne => .eq
  | .lt => .ge
  | .ge => .lt
  | .gt => .le
  | .le => .gt
theorem nh_neg_ok (cd : ClassFile.Cond) {a b : Int} (h : nh_cr cd a b = false) : nh_cr (nh_neg cd) a b = true := by
  cases cd <;> simp only [nh_cr, nh_neg, decide_eq_false_iff_not, decide_eq_true_eq] at h ⊢ <;> omega
def nh_cs (S : nhS) (cd : ClassFile.Cond) (x y : Nat) : Option nhS := match cd with
  | .lt => nh_asm S x y (-1)
  | .le => nh_asm S x y 0
  | .gt => nh_asm S y x (-1)
  | .ge => nh_asm S y x 0
  | .eq => match nh_asm S x y 0 with
    | some S1 => nh_asm S1 y x 0
    | none => none
  | .ne => nh_nes S x y
theorem nh_cs_ok {E : nhE} {nL : Nat} {pu : Bool} {H0 : Heap} {S : nhS} {ρ : List Value} {H : Heap} {locs : List Loc} {ls : Array Slot} {st : List Value} {cd : ClassFile.Cond} {x y : Nat} {a b : Int32}
    (h : nhR E nL pu H0 S ρ H locs ls st) (hx : ρ[x]? = some (.int a)) (hy : ρ[y]? = some (.int b)) (hc : nh_cr cd a.toInt b.toInt = true) : ∃ S', nh_cs S cd x y = some S' ∧ nhR E nL pu H0 S' ρ H locs ls st := by
  cases cd <;> simp only [nh_cr, decide_eq_true_eq] at hc <;> unfold nh_cs <;> dsimp only
  · obtain ⟨S1, k1, k2⟩ := nh_asm_ok (c := 0) h hx hy (by omega)
    rw [k1]
    exact nh_asm_ok k2 hy hx (by omega)
  · exact nh_nes_ok h hx hy hc
  · exact nh_asm_ok h hx hy (by omega)
  · exact nh_asm_ok h hy hx (by omega)
  · exact nh_asm_ok h hy hx (by omega)
  · exact nh_asm_ok h hx hy (by omega)
def nh_zs (S : nhS) (cd : ClassFile.Cond) (x : Nat) : Option nhS := match cd with
  | .lt => nh_ref S x (-2147483648) (-1)
  | .le => nh_ref S x (-2147483648) 0
  | .gt => nh_ref S x 1 2147483647
  | .ge => nh_ref S x 0 2147483647
  | .eq => match nh_ref S x 0 0 with
    | some S1 => nh_app S1.2.2.2.2.2 x false S1
    | none => none
  | .ne => match S.1[x]? with
    | some (0, a, b) => match (if a = 0 then nh_ref S x 1 b else if b = 0 then nh_ref S x a (-1) else some S) with
      | some S1 => nh_app S1.2.2.2.2.2 x true S1
      | none => none
    | _ => nh_app S.2.2.2.2.2 x true S
theorem nh_zs_ok {E : nhE} {nL : Nat} {pu : Bool} {H0 : Heap} {S : nhS} {ρ : List Value} {H : Heap} {locs : List Loc} {ls : Array Slot} {st : List Value} {cd : ClassFile.Cond} {x : Nat} {a : Int32}
    (h : nhR E nL pu H0 S ρ H locs ls st) (hx : ρ[x]? = some (.int a)) (hc : nh_cr cd a.toInt 0 = true) : ∃ S', nh_zs S cd x = some S' ∧ nhR E nL pu H0 S' ρ H locs ls st := by
  have hr := fb_rng a
  have z0 : a = 0 ↔ a.toInt = 0 := by rw [← Int32.toInt_inj]; rfl
  cases cd <;> simp only [nh_cr, decide_eq_true_eq] at hc <;> unfold nh_zs <;> dsimp only
  · obtain ⟨S1, k1, k2⟩ := nh_ref_ok (lo := 0) (hi := 0) h hx (by omega) (by omega)
    rw [k1]
    exact nh_app_ok hx (by simp [z0, hc]) k2.2.2.2.2.2.1 k2
  · have hnz : decide (a ≠ 0) = true := by simp [z0, hc]
    split
    · rename_i u v hu
      obtain ⟨x', g1, a', e1, a1, a2⟩ := h.1.2 x _ hu
      rw [hx] at g1; cases g1; cases e1
      dsimp only at a1 a2
      split
      · rename_i S1 q
        have : nhR E nL pu H0 S1 ρ H locs ls st := by
          split at q
          · obtain ⟨S2, k1, k2⟩ := nh_ref_ok (lo := 1) (hi := v) h hx (by omega) (by omega)
            rw [k1] at q; cases q; exact k2
          · split at q
            · obtain ⟨S2, k1, k2⟩ := nh_ref_ok (lo := u) (hi := -1) h hx (by omega) (by omega)
              rw [k1] at q; cases q; exact k2
            · cases q; exact h
        exact nh_app_ok hx hnz this.2.2.2.2.2.1 this
      · rename_i q
        exfalso
        split at q
        · obtain ⟨S2, k1, k2⟩ := nh_ref_ok (lo := 1) (hi := v) h hx (by omega) (by omega)
          rw [k1] at q; cases q
        · split at q
          · obtain ⟨S2, k1, k2⟩ := nh_ref_ok (lo := u) (hi := -1) h hx (by omega) (by omega)
            rw [k1] at q; cases q
          · cases q
    · exact nh_app_ok hx hnz h.2.2.2.2.2.1 h
  · exact nh_ref_ok h hx (by omega) (by omega)
  · exact nh_ref_ok h hx (by omega) (by omega)
  · exact nh_ref_ok h hx (by omega) (by omega)
  · exact nh_ref_ok h hx (by omega) (by omega)
def nh_isI (S : nhS) (x : Nat) : Bool := match S.1[x]? with
  | some v => nh_cat v == 0
  | none => false
theorem nh_isI_ok {E : nhE} {nL : Nat} {pu : Bool} {H0 : Heap} {S : nhS} {ρ : List Value} {H : Heap} {locs : List Loc} {ls : Array Slot} {st : List Value} {x : Nat} {v : Value} (h : nhR E nL pu H0 S ρ H locs ls st) (hi : nh_isI S x = true) (hv : ρ[x]? = some v) : ∃ a : Int32, v = .int a := by
  unfold nh_isI at hi
  split at hi
  · rename_i w hw
    obtain ⟨x', g1, g2⟩ := h.1.2 x w hw
    rw [hv] at g1; cases g1
    exact (nh_cat_ok g2).1 (by simpa using hi)
  · cases hi
/-- where a jump goes -/
def nh_tg (pc : Nat) (off : Int) : Option Nat := if 0 ≤ (pc : Int) + off then some ((pc : Int) + off).toNat else none
theorem nh_tg_ok {pc t : Nat} {off : Int} (h : nh_tg pc off = some t) : (pc : Int) + off = (t : Int) := by
  unfold nh_tg at h
  split at h
  · cases h; omega
  · cases h
def nh_at (o : Option nhS) (t : Nat) : nhSu := match o with
  | some S => [(S, t)]
  | none => []
/-- the ways of a table: those of its places from k on -/
def nh_tab (S : nhS) (x pc : Nat) (lo : Int) : Nat → List Int → Option nhSu
  | _, [] => some []
  | k, o :: r => match nh_tg pc o, nh_tab S x pc lo (k + 1) r with
    | some t, some l => some (nh_at (nh_ref S x (lo + k) (lo + k)) t ++ l)
    | _, _ => none
def nh_look (S : nhS) (x pc : Nat) : List (Int × Int) → Option nhSu
  | [] => some []
  | q :: r => match nh_tg pc q.2, nh_look S x pc r with
    | some t, some l => some (nh_at (nh_ref S x q.1 q.1) t ++ l)
    | _, _ => none
def nh_sBr (S : nhS) (pc : Nat) (i : Instr) (len : Nat) : Option nhSu := match i with
  | .if_icmp cd off => match S.2.2.1 with
    | y :: x :: rest => match nh_tg pc off with
      | some t => if len = 3 ∧ nh_isI S x = true ∧ nh_isI S y = true then some (nh_at (nh_cs (S.1, S.2.1, rest, S.2.2.2) cd x y) t ++ nh_at (nh_cs (S.1, S.2.1, rest, S.2.2.2) (nh_neg cd) x y) (pc + 3)) else none
      | none => none
    | _ => none
  | .ifCond cd off => match S.2.2.1 with
    | x :: rest => match nh_tg pc off with
      | some t => if len = 3 ∧ nh_isI S x = true then some (nh_at (nh_zs (S.1, S.2.1, rest, S.2.2.2) cd x) t ++ nh_at (nh_zs (S.1, S.2.1, rest, S.2.2.2) (nh_neg cd) x) (pc + 3)) else none
      | none => none
    | _ => none
  | .goto off => match nh_tg pc off with
    | some t => if len = 3 then some [(S, t)] else none
    | none => none
  | .ifnull off => match S.2.2.1 with
    | x :: rest => match S.1[x]?, nh_tg pc off with
      | some v, some t => if len = 3 then (if v.1 = 2 then some [((S.1, S.2.1, rest, S.2.2.2), pc + 3)] else if v.1 = 3 then some [((S.1, S.2.1, rest, S.2.2.2), t), (nh_set (S.1, S.2.1, rest, S.2.2.2) x (2, v.2), pc + 3)] else none) else none
      | _, _ => none
    | _ => none
  | .ifnonnull off => match S.2.2.1 with
    | x :: rest => match S.1[x]?, nh_tg pc off with
      | some v, some t => if len = 3 then (if v.1 = 2 then some [((S.1, S.2.1, rest, S.2.2.2), t)] else if v.1 = 3 then some [((S.1, S.2.1, rest, S.2.2.2), pc + 3), (nh_set (S.1, S.2.1, rest, S.2.2.2) x (2, v.2), t)] else none) else none
      | _, _ => none
    | _ => none
  | .tableswitch d lo hi offs => match S.2.2.1 with
    | x :: rest => match nh_tg pc d, nh_tab (S.1, S.2.1, rest, S.2.2.2) x pc lo 0 offs.toList with
      | some t, some l => if nh_isI S x = true ∧ hi < lo + offs.toList.length then some (nh_at (nh_ref (S.1, S.2.1, rest, S.2.2.2) x (-2147483648) (lo - 1)) t ++ (nh_at (nh_ref (S.1, S.2.1, rest, S.2.2.2) x (hi + 1) 2147483647) t ++ l)) else none
      | _, _ => none
    | _ => none
  | .lookupswitch d ps => match S.2.2.1 with
    | x :: rest => match nh_tg pc d, nh_look (S.1, S.2.1, rest, S.2.2.2) x pc ps.toList with
      | some t, some l => if nh_isI S x = true ∧ (ps.toList.zip (ps.toList.drop 1)).all (fun (a, next) => a.1 < next.1) = true then some (((S.1, S.2.1, rest, S.2.2.2), t) :: l) else none
      | _, _ => none
    | _ => none
  | _ => none
section NH10
variable {p : Program} {l : Launch} {e : Env} {R : Room} {s : State} {m : MethodId} {args : Array Value} {below : List Frame} {meth : Method} {c : Code} {Q : State → Prop}
variable {cc : ByteArray} {E : nhE} {nL : Nat} {pu : Bool} {pc : Nat} {S : nhS} {ρ0 : List Value}
theorem nh_icW {H : Heap} {locs : List Loc} {ls : Array Slot} {rest : List Value} {cells slots : Nat} (hx : p.tables.exec = Jvm.exec) (hb : c.code = cc) {cd : ClassFile.Cond} {off : Int} {t : Nat} (hd : decode cc pc = .ok (.if_icmp cd off, 3)) (ht : (pc : Int) + off = (t : Int)) {x y : Int32}
    (kt : nh_cr cd x.toInt y.toInt = true → W p l e R s m args below meth c H locs cells slots Q (F0 m t ls rest)) (kf : nh_cr cd x.toInt y.toInt = false → W p l e R s m args below meth c H locs cells slots Q (F0 m (pc + 3) ls rest)) : W p l e R s m args below meth c H locs cells slots Q (F0 m pc ls (.int y :: .int x :: rest)) := by
  cases cd
  · exact lv_icmp_eq hx hb hd ht (fun h => kt (by simp [nh_cr, h])) (fun h => kf (by simp only [nh_cr, decide_eq_false_iff_not]; exact fun q => h (Int32.toInt_inj.mp q)))
  · exact lv_icmp_ne hx hb hd ht (fun h => kt (by simp only [nh_cr, decide_eq_true_eq]; exact fun q => h (Int32.toInt_inj.mp q))) (fun h => kf (by simp [nh_cr, h]))
  · exact lv_icmp_lt hx hb hd ht (fun h => kt (by simp only [nh_cr, decide_eq_true_eq]; exact Int32.lt_iff_toInt_lt.mp h)) (fun h => kf (by simp only [nh_cr, decide_eq_false_iff_not]; exact fun q => h (Int32.lt_iff_toInt_lt.mpr q)))
  · exact lv_icmp_ge hx hb hd ht (fun h => kt (by simp only [nh_cr, decide_eq_true_eq]; exact Int32.le_iff_toInt_le.mp h)) (fun h => kf (by simp only [nh_cr, decide_eq_false_iff_not]; exact fun q => h (Int32.le_iff_toInt_le.mpr q)))
  · exact lv_icmp_gt hx hb hd ht (fun h => kt (by simp only [nh_cr, decide_eq_true_eq]; exact Int32.lt_iff_toInt_lt.mp h)) (fun h => kf (by simp only [nh_cr, decide_eq_false_iff_not]; exact fun q => h (Int32.lt_iff_toInt_lt.mpr q)))
  · exact lv_icmp_le hx hb hd ht (fun h => kt (by simp only [nh_cr, decide_eq_true_eq]; exact Int32.le_iff_toInt_le.mp h)) (fun h => kf (by simp only [nh_cr, decide_eq_false_iff_not]; exact fun q => h (Int32.le_iff_toInt_le.mpr q)))
theorem nh_ifW {H : Heap} {locs : List Loc} {ls : Array Slot} {rest : List Value} {cells slots : Nat} (hx : p.tables.exec = Jvm.exec) (hb : c.code = cc) {cd : ClassFile.Cond} {off : Int} {t : Nat} (hd : decode cc pc = .ok (.ifCond cd off, 3)) (ht : (pc : Int) + off = (t : Int)) {x : Int32}
    (kt : nh_cr cd x.toInt 0 = true → W p l e R s m args below meth c H locs cells slots Q (F0 m t ls rest)) (kf : nh_cr cd x.toInt 0 = false → W p l e R s m args below meth c H locs cells slots Q (F0 m (pc + 3) ls rest)) : W p l e R s m args below meth c H locs cells slots Q (F0 m pc ls (.int x :: rest)) := by
  have z0 : (0 : Int32).toInt = 0 := rfl
  rw [← z0] at kt kf
  cases cd
  · exact lv_if_eq hx hb hd ht (fun h => kt (by simp [nh_cr, h])) (fun h => kf (by simp only [nh_cr, decide_eq_false_iff_not]; exact fun q => h (Int32.toInt_inj.mp q)))
  · exact lv_if_ne hx hb hd ht (fun h => kt (by simp only [nh_cr, decide_eq_true_eq]; exact fun q => h (Int32.toInt_inj.mp q))) (fun h => kf (by simp [nh_cr, h]))
  · exact lv_if_lt hx hb hd ht (fun h => kt (by simp only [nh_cr, decide_eq_true_eq]; exact Int32.lt_iff_toInt_lt.mp h)) (fun h => kf (by simp only [nh_cr, decide_eq_false_iff_not]; exact fun q => h (Int32.lt_iff_toInt_lt.mpr q)))
  · exact lv_if_ge hx hb hd ht (fun h => kt (by simp only [nh_cr, decide_eq_true_eq]; exact Int32.le_iff_toInt_le.mp h)) (fun h => kf (by simp only [nh_cr, decide_eq_false_iff_not]; exact fun q => h (Int32.le_iff_toInt_le.mpr q)))
  · exact lv_if_gt hx hb hd ht (fun h => kt (by simp only [nh_cr, decide_eq_true_eq]; exact Int32.lt_iff_toInt_lt.mp h)) (fun h => kf (by simp only [nh_cr, decide_eq_false_iff_not]; exact fun q => h (Int32.lt_iff_toInt_lt.mpr q)))
  · exact lv_if_le hx hb hd ht (fun h => kt (by simp only [nh_cr, decide_eq_true_eq]; exact Int32.le_iff_toInt_le.mp h)) (fun h => kf (by simp only [nh_cr, decide_eq_false_iff_not]; exact fun q => h (Int32.le_iff_toInt_le.mpr q)))
theorem nh_at_mem {S' : nhS} {o : Option nhS} {t : Nat} (h : o = some S') : (S', t) ∈ nh_at o t := by
  subst h; exact List.mem_cons_self
theorem nh_tab_mem {S' : nhS} {x pc : Nat} {lo : Int} : ∀ {offs : List Int} {k : Nat} {l : nhSu} {j : Nat} {o : Int}, nh_tab S x pc lo k offs = some l → offs[j]? = some o → nh_ref S x (lo + (k + j : Nat)) (lo + (k + j : Nat)) = some S' → ∃ t, nh_tg pc o = some t ∧ (S', t) ∈ l
  | [], k, l, j, o, _, h, _ => by simp at h
  | o' :: r, k, l, j, o, h, hj, hr => by
    unfold nh_tab at h
    split at h
    · rename_i t l' ht hl
      cases h
      cases j with
      | zero =>
        rw [List.getElem?_cons_zero] at hj
        cases hj
        exact ⟨t, ht, List.mem_append_left _ (nh_at_mem hr)⟩
      | succ j =>
        rw [List.getElem?_cons_succ] at hj
        obtain ⟨t', h1, h2⟩ := nh_tab_mem hl hj (by rw [show k + 1 + j = k + (j + 1) by omega]; exact hr)
        exact ⟨t', h1, List.mem_append_right _ h2⟩
    · cases h
theorem nh_look_ok {ρ : List Value} {H : Heap} {locs : List Loc} {ls : Array Slot} {st : List Value} {x : Nat} {a : Int32} (hR : nhR E nL pu s.heap S ρ H locs ls st) (hx : ρ[x]? = some (.int a)) (d : Int) :
    ∀ {ps : List (Int × Int)} {l : nhSu}, nh_look S x pc ps = some l → Op.lookupswitch.offset ps d a.toInt = d ∨ ∃ (t : Nat) (S' : nhS), (pc : Int) + Op.lookupswitch.offset ps d a.toInt = (t : Int) ∧ (S', t) ∈ l ∧ nhR E nL pu s.heap S' ρ H locs ls st
  | [], l, _ => Or.inl rfl
  | q :: r, l, h => by
    unfold nh_look at h
    split at h
    · rename_i t l' ht hl
      cases h
      rw [Op.lookupswitch.offset_cons]
      split
      · rename_i hq
        obtain ⟨S1, k1, k2⟩ := nh_ref_ok (lo := q.1) (hi := q.1) hR hx (by omega) (by omega)
        exact Or.inr ⟨t, S1, nh_tg_ok ht, List.mem_append_left _ (nh_at_mem k1), k2⟩
      · rcases nh_look_ok hR hx d hl with h1 | ⟨t', S', h1, h2, h3⟩
        · exact Or.inl h1
        · exact Or.inr ⟨t', S', h1, List.mem_append_right _ h2, h3⟩
    · cases h
theorem nh_sBr_ok (hx : p.tables.exec = Jvm.exec) (hb : c.code = cc) {i : Instr} {len : Nat} (hd : decode cc pc = .ok (i, len)) {L : nhSu} (h : nh_sBr S pc i len = some L)
    (k : ∀ q ∈ L, nhGo p l e R s m args below meth c Q E nL pu q.2 q.1 ρ0) : nhGo p l e R s m args below meth c Q E nL pu pc S ρ0 := by
  intro ρ H locs ls st hρ hR
  have hs := hR.2.2.1
  unfold nh_sBr at h
  split at h
  · split at h
    · rename_i y x rest hst
      rw [hst] at hs
      obtain ⟨vy, st1, rfl, hy1, hs1⟩ := hs.inv1
      obtain ⟨vx, st2, rfl, hx1, hs2⟩ := hs1.inv1
      split at h
      · rename_i t ht
        split at h
        · rename_i hc
          cases h
          obtain ⟨rfl, i1, i2⟩ := hc
          obtain ⟨a, rfl⟩ := nh_isI_ok hR i1 hx1
          obtain ⟨b, rfl⟩ := nh_isI_ok hR i2 hy1
          have hR' := nh_stack_ok hR hs2
          refine nh_icW hx hb hd (nh_tg_ok ht) (fun hc => ?_) (fun hc => ?_)
          · obtain ⟨S1, k1, k2⟩ := nh_cs_ok hR' hx1 hy1 hc
            exact k (S1, t) (List.mem_append_left _ (nh_at_mem k1)) ρ H locs ls _ hρ k2
          · obtain ⟨S1, k1, k2⟩ := nh_cs_ok hR' hx1 hy1 (nh_neg_ok _ hc)
            exact k (S1, pc + 3) (List.mem_append_right _ (nh_at_mem k1)) ρ H locs ls _ hρ k2
        · cases h
      · cases h
    · cases h
  · split at h
    · rename_i x rest hst
      rw [hst] at hs
      obtain ⟨vx, st2, rfl, hx1, hs2⟩ := hs.inv1
      split at h
      · rename_i t ht
        split at h
        · rename_i hc
          cases h
          obtain ⟨rfl, i1⟩ := hc
          obtain ⟨a, rfl⟩ := nh_isI_ok hR i1 hx1
          have hR' := nh_stack_ok hR hs2
          refine nh_ifW hx hb hd (nh_tg_ok ht) (fun hc => ?_) (fun hc => ?_)
          · obtain ⟨S1, k1, k2⟩ := nh_zs_ok hR' hx1 hc
            exact k (S1, t) (List.mem_append_left _ (nh_at_mem k1)) ρ H locs ls _ hρ k2
          · obtain ⟨S1, k1, k2⟩ := nh_zs_ok hR' hx1 (nh_neg_ok _ hc)
            exact k (S1, pc + 3) (List.mem_append_right _ (nh_at_mem k1)) ρ H locs ls _ hρ k2
        · cases h
      · cases h
    · cases h
  · split at h
    · rename_i t ht
      split at h
      · rename_i hl
        cases h
        subst hl
        exact lv_goto hx hb hd (nh_tg_ok ht) (k (S, t) List.mem_cons_self ρ H locs ls st hρ hR)
      · cases h
    · cases h
  · split at h
    · rename_i x rest hst
      rw [hst] at hs
      obtain ⟨vx, st2, rfl, hx1, hs2⟩ := hs.inv1
      have hR' := nh_stack_ok hR hs2
      split at h
      · rename_i v t hv ht
        obtain ⟨x', g1, g2⟩ := hR.1.2 x v hv
        rw [hx1] at g1; cases g1
        obtain ⟨vt, vk⟩ := v
        split at h
        · rename_i hl
          subst hl
          split at h
          · rename_i h2
            cases h
            dsimp only at h2
            subst h2
            obtain ⟨a, rfl, ha⟩ := g2
            exact lv_ifnull hx hb hd (k (_, pc + 3) List.mem_cons_self ρ H locs ls _ hρ hR')
          · split at h
            · rename_i h3
              cases h
              dsimp only at h3
              subst h3
              rcases g2 with rfl | ⟨a, rfl, ha⟩
              · exact lv_ifnullN hx hb hd (nh_tg_ok ht) (k (_, t) List.mem_cons_self ρ H locs ls _ hρ hR')
              · exact lv_ifnull hx hb hd (k (_, pc + 3) (List.mem_cons_of_mem _ List.mem_cons_self) ρ H locs ls _ hρ (nh_set_ok hR' hx1 ⟨a, rfl, ha⟩))
            · cases h
        · cases h
      · cases h
    · cases h
  · split at h
    · rename_i x rest hst
      rw [hst] at hs
      obtain ⟨vx, st2, rfl, hx1, hs2⟩ := hs.inv1
      have hR' := nh_stack_ok hR hs2
      split at h
      · rename_i v t hv ht
        obtain ⟨x', g1, g2⟩ := hR.1.2 x v hv
        rw [hx1] at g1; cases g1
        obtain ⟨vt, vk⟩ := v
        split at h
        · rename_i hl
          subst hl
          split at h
          · rename_i h2
            cases h
            dsimp only at h2
            subst h2
            obtain ⟨a, rfl, ha⟩ := g2
            exact lv_ifnonnull hx hb hd (nh_tg_ok ht) (k (_, t) List.mem_cons_self ρ H locs ls _ hρ hR')
          · split at h
            · rename_i h3
              cases h
              dsimp only at h3
              subst h3
              rcases g2 with rfl | ⟨a, rfl, ha⟩
              · exact lv_ifnonnullN hx hb hd (k (_, pc + 3) List.mem_cons_self ρ H locs ls _ hρ hR')
              · exact lv_ifnonnull hx hb hd (nh_tg_ok ht) (k (_, t) (List.mem_cons_of_mem _ List.mem_cons_self) ρ H locs ls _ hρ (nh_set_ok hR' hx1 ⟨a, rfl, ha⟩))
            · cases h
        · cases h
      · cases h
    · cases h
  · rename_i d lo hi offs
    split at h
    · rename_i x rest hst
      rw [hst] at hs
      obtain ⟨vx, st2, rfl, hx1, hs2⟩ := hs.inv1
      have hR' := nh_stack_ok hR hs2
      split at h
      · rename_i t l' ht hl'
        split at h
        · rename_i hc
          cases h
          obtain ⟨a, rfl⟩ := nh_isI_ok hR hc.1 hx1
          have hr := fb_rng a
          by_cases h1 : a.toInt < lo
          · obtain ⟨S1, k1, k2⟩ := nh_ref_ok (lo := -2147483648) (hi := lo - 1) hR' hx1 (by omega) (by omega)
            exact lv_tableOut hx hb hd (Or.inl h1) (nh_tg_ok ht) (k (S1, t) (List.mem_append_left _ (nh_at_mem k1)) ρ H locs ls _ hρ k2)
          · by_cases h2 : hi < a.toInt
            · obtain ⟨S1, k1, k2⟩ := nh_ref_ok (lo := hi + 1) (hi := 2147483647) hR' hx1 (by omega) (by omega)
              exact lv_tableOut hx hb hd (Or.inr h2) (nh_tg_ok ht) (k (S1, t) (List.mem_append_right _ (List.mem_append_left _ (nh_at_mem k1))) ρ H locs ls _ hρ k2)
            · have hlt : (a.toInt - lo).toNat < offs.toList.length := by omega
              have ho : offs.toList[(a.toInt - lo).toNat]? = some (offs.toList[(a.toInt - lo).toNat]) := List.getElem?_eq_getElem hlt
              have eq1 : lo + ((0 + (a.toInt - lo).toNat : Nat) : Int) = a.toInt := by omega
              obtain ⟨S1, k1, k2⟩ := nh_ref_ok (lo := lo + ((0 + (a.toInt - lo).toNat : Nat) : Int)) (hi := lo + ((0 + (a.toInt - lo).toNat : Nat) : Int)) hR' hx1 (by omega) (by omega)
              obtain ⟨t', m1, m2⟩ := nh_tab_mem hl' ho k1
              exact lv_tableIn hx hb hd h1 h2 (by rw [← Array.getElem?_toList]; exact ho) (nh_tg_ok m1) (k (S1, t') (List.mem_append_right _ (List.mem_append_right _ m2)) ρ H locs ls _ hρ k2)
        · cases h
      · cases h
    · cases h
  · rename_i d ps
    split at h
    · rename_i x rest hst
      rw [hst] at hs
      obtain ⟨vx, st2, rfl, hx1, hs2⟩ := hs.inv1
      have hR' := nh_stack_ok hR hs2
      split at h
      · rename_i t l' ht hl'
        split at h
        · rename_i hc
          cases h
          obtain ⟨a, rfl⟩ := nh_isI_ok hR hc.1 hx1
          rcases nh_look_ok hR' hx1 d hl' with h1 | ⟨t', S', h1, h2, h3⟩
          · exact lv_lookup hx hb hd hc.2 h1 (nh_tg_ok ht) (k (_, t) List.mem_cons_self ρ H locs ls _ hρ hR')
          · exact lv_lookup hx hb hd hc.2 rfl h1 (k (S', t') (List.mem_cons_of_mem _ h2) ρ H locs ls _ hρ h3)
        · cases h
      · cases h
    · cases h
  · cases h
end NH10
