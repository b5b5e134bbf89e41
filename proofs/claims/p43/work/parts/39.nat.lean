/-! natives, Math -/
def nk_lkS (l : List (Nat × Nat × Nat)) (i : Nat) : Option (Nat × Nat × Nat) := match l with
  | [] => none
  | q :: r => match Nat.beq q.1 i with
    | true => some q
    | false => nk_lkS r i
theorem nk_lkS_ok {l : List (Nat × Nat × Nat)} {i : Nat} {q : Nat × Nat × Nat} (h : nk_lkS l i = some q) : q.1 = i ∧ q ∈ l := by
  induction l with
  | nil => cases h
  | cons w r ih =>
    unfold nk_lkS at h
    split at h
    · rename_i e
      cases h
      exact ⟨Nat.eq_of_beq_eq_true e, List.mem_cons_self⟩
    · exact ⟨(ih h).1, List.mem_cons_of_mem _ (ih h).2⟩
def nk_abs (a b : Nat) : nkV := match Nat.ble 18446744073709551616 a with
  | true => (0, a, b)
  | false => match Nat.ble 18446744071562067969 a with
    | true => (0, 18446744073709551616, Nat.max b (36893488147419103232 - a))
    | false => nk_fl
def nk_r8 (S : nkS) (rest : List Nat) (len : Nat) : Bool := match nk_catS S rest with
  | some n => Nat.ble n 8 && Nat.beq len 3
  | none => false
/-- copies: kinds, from, to, how many -/
def nk_cpB (kd : List nkKd) (Ws : nkWs) (k0 k1 : Nat) (s d n : Nat × Nat) : Bool := match nk_nth kd k0, nk_nth kd k1 with
  | some a, some b => Nat.beq a.1 1 && (Nat.beq b.1 1 && (Nat.beq a.2.1 0 && (Nat.beq b.2.1 0 && (Nat.beq a.2.2.2.1 1 && (Nat.beq b.2.2.2.1 1 && (Nat.beq (nk_cat (nk_ty a 0)) 0 && (nk_le (nk_ty a 0) (nk_ty b 0) && (Nat.beq (nk_cat (nk_ty b 0)) 0 && (Nat.ble 18446744073709551616 s.1 && (Nat.ble 18446744073709551616 d.1 && (Nat.ble 18446744073709551616 n.1 && (Nat.ble (s.2 + n.2) (36893488147419103232 + a.2.2.1) && (Nat.ble (d.2 + n.2) (36893488147419103232 + b.2.2.1) && (nk_cvR Ws k1 0 (b.2.2.1 - 1) && Nat.blt k1 80))))))))))))))
  | _, _ => false
def nk_sNat (kd : List nkKd) (Ws : nkWs) (own : Nat) (S : nkS) (i : Instr) (len : Nat) : Option nkS := match i with
  | .invokestatic idx => match nk_nth ceSp own with
    | some row => match nk_lkS row idx with
      | some q => match q.2.1 with
        | 0 => match S.2.2.2.1 with
          | n :: dp :: a :: sp :: a0 :: rest => match nk_kn S a0, nk_kn S a, nk_g S.2.1 S.1 n, nk_g S.2.1 S.1 dp, nk_g S.2.1 S.1 sp with
            | some k0, some k1, some vn, some vd, some vs => match nk_iv vs, nk_iv vd, nk_iv vn with
              | some is, some id, some im => match nk_r8 S rest len && nk_cpB kd Ws k0 k1 is id im with
                | true => match nk_nth kd k1 with
                  | some b => some (S.1, S.2.1, S.2.2.1, rest, S.2.2.2.2.1.filter (nk_kpM S k1 0 (b.2.2.1 - 1)), S.2.2.2.2.2)
                  | none => none
                | false => none
              | _, _, _ => none
            | _, _, _, _, _ => none
          | _ => none
        | 1 => match S.2.2.2.1 with
          | y :: x :: rest => match nk_g S.2.1 S.1 x, nk_g S.2.1 S.1 y with
            | some u, some w => match nk_iv u, nk_iv w with
              | some a, some b => match nk_r8 S rest len with
                | true => some (nk_push S rest (0, Nat.min a.1 b.1, Nat.min a.2 b.2))
                | false => none
              | _, _ => none
            | _, _ => none
          | _ => none
        | 2 => match S.2.2.2.1 with
          | y :: x :: rest => match nk_g S.2.1 S.1 x, nk_g S.2.1 S.1 y with
            | some u, some w => match nk_iv u, nk_iv w with
              | some a, some b => match nk_r8 S rest len with
                | true => some (nk_push S rest (0, Nat.max a.1 b.1, Nat.max a.2 b.2))
                | false => none
              | _, _ => none
            | _, _ => none
          | _ => none
        | 3 => match S.2.2.2.1 with
          | x :: rest => match nk_g S.2.1 S.1 x with
            | some u => match nk_iv u with
              | some a => match nk_r8 S rest len with
                | true => some (nk_push S rest (nk_abs a.1 a.2))
                | false => none
              | none => none
            | none => none
          | _ => none
        | _ => none
      | none => match Nat.beq own 8 && Nat.beq idx 99 with
        | true => match S.2.2.2.1 with
          | y :: x :: rest => match nk_isI S x, nk_g S.2.1 S.1 y with
            | true, some w => match nk_r8 S rest len && nk_le w (0, 18446744073709551621, 18446744073709551621) with
              | true => some (nk_push S rest (0, 18446744073709551616, 18446744073709551620))
              | false => none
            | _, _ => none
          | _ => none
        | false => none
    | none => none
  | _ => none
theorem nk_mnI {a b : Nat} {x y : Int} (h1 : (a : Int) ≤ x) (h2 : (b : Int) ≤ y) {z : Int} (hz : z = x ∨ z = y) : ((Nat.min a b : Nat) : Int) ≤ z := by
  have h3 : Nat.min a b ≤ a := Nat.min_le_left a b
  have h4 : Nat.min a b ≤ b := Nat.min_le_right a b
  omega
theorem nk_mxI {a b : Nat} {x y : Int} (h1 : x ≤ (a : Int)) (h2 : y ≤ (b : Int)) {z : Int} (hz : z = x ∨ z = y) : z ≤ ((Nat.max a b : Nat) : Int) := by
  have h3 : a ≤ Nat.max a b := Nat.le_max_left a b
  have h4 : b ≤ Nat.max a b := Nat.le_max_right a b
  omega
theorem nk_mnJ {a b : Nat} {z : Int} (h1 : z ≤ (a : Int)) (h2 : z ≤ (b : Int)) : z ≤ ((Nat.min a b : Nat) : Int) := by
  have : Nat.min a b = a ∨ Nat.min a b = b := by
    rcases Nat.le_total a b with q | q
    · exact Or.inl (Nat.min_eq_left q)
    · exact Or.inr (Nat.min_eq_right q)
  rcases this with q | q <;> rw [q] <;> assumption
theorem nk_mxJ {a b : Nat} {z : Int} (h1 : (a : Int) ≤ z) (h2 : (b : Int) ≤ z) : ((Nat.max a b : Nat) : Int) ≤ z := by
  have : Nat.max a b = a ∨ Nat.max a b = b := by
    rcases Nat.le_total a b with q | q
    · exact Or.inr (Nat.max_eq_right q)
    · exact Or.inl (Nat.max_eq_left q)
  rcases this with q | q <;> rw [q] <;> assumption
theorem nk_abs_ok {Γ : Nat → Nat} {a b : Nat} {x : Int32} (h1 : (a : Int) ≤ x.toInt + 18446744073709551616) (h2 : x.toInt + 18446744073709551616 ≤ (b : Int)) : nkOk Γ (nk_abs a b) (.int (if 0 ≤ x then x else 0 - x)) := by
  have rx := fb_rng x
  have e0 : (0 ≤ x) ↔ 0 ≤ x.toInt := by rw [Int32.le_iff_toInt_le]; rfl
  have z0 : (0 : Int32).toInt = 0 := rfl
  simp only [e0]
  unfold nk_abs
  split
  · rename_i q
    have q := Nat.le_of_ble_eq_true q
    rw [if_pos (by omega)]
    exact ⟨x, rfl, h1, h2⟩
  · split
    · rename_i q
      have q := Nat.le_of_ble_eq_true q
      by_cases h0 : 0 ≤ x.toInt
      · rw [if_pos h0]
        refine ⟨x, rfl, by dsimp only; omega, ?_⟩
        have := Nat.le_max_left b (36893488147419103232 - a)
        have h3 : ((b : Nat) : Int) ≤ ((Nat.max b (36893488147419103232 - a) : Nat) : Int) := by exact_mod_cast this
        dsimp only
        omega
      · rw [if_neg h0]
        have e : (0 - x).toInt = -x.toInt := by
          rw [fb_subI (by rw [z0]; omega) (by rw [z0]; omega), z0]
          omega
        refine ⟨0 - x, rfl, by dsimp only; omega, ?_⟩
        have h4 : (((36893488147419103232 - a : Nat)) : Int) ≤ ((Nat.max b (36893488147419103232 - a) : Nat) : Int) := by
          have := Nat.le_max_right b (36893488147419103232 - a)
          exact_mod_cast this
        have h5 : -x.toInt + 18446744073709551616 ≤ (((36893488147419103232 - a : Nat)) : Int) := by omega
        dsimp only
        rw [e]
        exact Int.le_trans h5 h4
    · exact nk_fl_ok Γ _
theorem nk_fmL : Cond.methodLink "NightHouses$Steps" 99 nh_fmY ∈ nhTb := nh_wd_ok (i := 945) (by decide +kernel)
theorem nk_fmS : Cond.static nh_fmY ∈ nhTb := nh_wd_ok (i := 946) (by decide +kernel)
set_option maxRecDepth 100000 in
theorem nk_fmC : Cond.code nh_fmY prog_18_method_50_code 3 (some .int) ∈ nhTb := nhTb_mem (List.mem_of_getElem? (i := 947) rfl) rfl
theorem nk_fmD : nh_fmY.cls ≠ "java/lang/invoke/MethodHandle" ∧ nh_fmY.cls ≠ "java/lang/invoke/VarHandle" ∧ (parseMethodDescriptor nh_fmY.desc).map (fun d => d.parameters.length) = some 2 := by decide +kernel
section NK39
variable {p : Program} {l : Launch} {e : Env} {R : Room} {s : State} {m : MethodId} {args : Array Value} {below : List Frame} {meth : Method} {c : Code} {Q : State → Prop}
variable {cc : ByteArray} {E : nkE} {nL own : Nat} {Ws : nkWs} {H0 : Heap} {n0 : Nat} {ρ0 : Nat → Value} {pc : Nat} {S : nkS}
theorem nk_fmW {H : Heap} {locs : List Loc} {ls : Array Slot} {rest : List Value} (hF : nhFx p c s m args cc nL own E.1) (ho : own = 8) (hf : 1 ≤ R.frames) (hlo : 60 ≤ R.locals) {x : Int32} (hls : ls.size = nL) (hcat : (rest.map fun v => v.category).sum ≤ 8) (hd : decode cc pc = .ok (.invokestatic 99, 3))
    (k : W p l e R s m args below meth c H locs 0 0 Q (F0 m (pc + 3) ls (.int (nh_fm5 x) :: rest))) : W p l e R s m args below meth c H locs 0 0 Q (F0 m pc ls (.int 5 :: .int x :: rest)) := by
  obtain ⟨hx, hb, hml, ⟨C, hC, hown⟩, hts, hK⟩ := hF
  subst ho
  cases hC
  have hgood : GoodIn nhTb (Cond.code nh_fmY prog_18_method_50_code 3 (some .int) :: nhTb) := by
    intro w hw
    rcases List.mem_cons.mp hw with rfl | hw
    · exact nhGoodIn0 _ nk_fmC
    · exact nhGoodIn0 _ hw
  have hB : CallB R s args "NightHouses$Steps" 99 nh_fmY prog_18_method_50_code 3 (some .int) (Cond.code nh_fmY prog_18_method_50_code 3 (some .int) :: nhTb) { frames := 0, cells := 0, slots := 0, locals := 0 } 0 0 2 := callB_of 2 hts hgood rfl rfl rfl (hts _ ceSp_i1) (hts _ nk_fmL) nk_fmD ⟨by show 0 + 1 ≤ _; omega, by show 8 + (3 + 11) + 0 ≤ _; omega⟩
  have hfin := va_runS (p := p) (l := l) (e := e) (below := below) (meth := meth) (H := H) (locs := locs) (cells := 0) (slots := 0) (As := [.int x, .int 5]) (rest := rest) (g := F0 m pc ls (.int 5 :: .int x :: rest)) ⟨hx, hb, hml, hown, hts⟩ (nh_fmM l nhTb x (fun _ => False)) ⟨hB, hts _ nk_fmS⟩ ⟨fun a U g mk q => q, fun U hU hW => rfl⟩ rfl rfl hls rfl (lv_room hcat) hd ⟨Nat.zero_le _, Nat.zero_le _⟩
  intro T hT X
  obtain ⟨v, st₀, t, T', L, h0, X', hL, e1, e2, ⟨hv, hh⟩, st⟩ := hfin T hT X
  cases hv
  have hL0 : L = [] := by
    cases L with
    | nil => rfl
    | cons q r => exact (hL q List.mem_cons_self).elim
  subst hL0
  rw [List.append_nil] at X'
  rw [h0] at hh
  obtain ⟨t2, a1, b1⟩ := k T' (e1.trans hh) X'
  exact ⟨t2, st t2 a1, b1⟩
theorem nk_r8_ok {rest : List Nat} {len : Nat} {ρ : Nat → Value} (hA : nkAll E.2.2 S.1 S.2.1 ρ) (h : nk_r8 S rest len = true) : ((rest.map ρ).map fun v => v.category).sum ≤ 8 ∧ len = 3 := by
  unfold nk_r8 at h
  split at h
  · rename_i n hn
    rw [Bool.and_eq_true] at h
    exact ⟨Nat.le_trans (nk_catS_ok hA hn) (Nat.le_of_ble_eq_true h.1), Nat.eq_of_beq_eq_true h.2⟩
  · cases h
theorem nk_sNat_ok (hF : nhFx p c s m args cc nL own E.1) (hf : 1 ≤ R.frames) (hlo : 60 ≤ R.locals) {i : Instr} {len : Nat} (hd : decode cc pc = .ok (i, len)) {S' : nkS} (h : nk_sNat E.2.1 Ws own S i len = some S')
    (k : nkGo p l e R s m args below meth c Q E nL Ws H0 n0 ρ0 (pc + len) S') : nkGo p l e R s m args below meth c Q E nL Ws H0 n0 ρ0 pc S := by
  intro hn ρ H locs ls st hρ hR
  have hF0 := hF
  obtain ⟨hx, hb, hml, ⟨C, hC, hown⟩, hts, hK⟩ := hF
  have hs := hR.2.2.1
  unfold nk_sNat at h
  split at h
  · rename_i idx
    split at h
    · rename_i row hrow
      rw [nk_nth_eq] at hrow
      split at h
      · rename_i q hq
        obtain ⟨h1, h2⟩ := nk_lkS_ok hq
        have h2 := nh_rows ceSp_all (o := own) (q := q) (by rw [List.getD_eq_getElem?_getD, hrow]; exact h2)
        unfold ce_spB at h2
        rw [hC] at h2
        rw [Bool.and_eq_true] at h2
        have h3 := nh_wd_ok h2.1
        rw [h1] at h3
        split at h
        · rename_i e0
          rw [e0] at h3
          split at h
          · rename_i n dp a sp a0 rest hst
            rw [hst] at hs
            obtain ⟨l1, x1, rfl, s1⟩ := hs.inv1
            obtain ⟨l2, x2, rfl, s2⟩ := s1.inv1
            obtain ⟨l3, x3, rfl, s3⟩ := s2.inv1
            obtain ⟨l4, x4, rfl, s4⟩ := s3.inv1
            obtain ⟨l5, x5, rfl, s5⟩ := s4.inv1
            split at h
            · rename_i k0 k1 vn vd vs hk0 hk1 hvn hvd hvs
              split at h
              · rename_i is id im his hid him
                split at h
                · rename_i hc
                  rw [Bool.and_eq_true] at hc
                  obtain ⟨hcat, rfl⟩ := nk_r8_ok (E := E) hR.1.1 hc.1
                  rw [← s5.1] at hcat
                  have hcb := hc.2
                  unfold nk_cpB at hcb
                  split at hcb
                  · rename_i ka kb hka hkb
                    split at h
                    · rename_i kb' hkb'
                      rw [hkb] at hkb'
                      cases hkb'
                      rw [nk_nth_eq] at hka hkb
                      cases h
                      simp only [Bool.and_eq_true] at hcb
                      obtain ⟨r1, r2, r3, r4, r5, r6, r7, c8, r9, r10, r11, r12, r13, r14, c15, c16⟩ := hcb
                      have c16 := nk_wok_lt (kd := E.2.1) (nk_blt c16)
                      have c1 := Nat.eq_of_beq_eq_true r1
                      have c2 := Nat.eq_of_beq_eq_true r2
                      have c3 := Nat.eq_of_beq_eq_true r3
                      have c4 := Nat.eq_of_beq_eq_true r4
                      have c5 := Nat.eq_of_beq_eq_true r5
                      have c6 := Nat.eq_of_beq_eq_true r6
                      have c7 := Nat.eq_of_beq_eq_true r7
                      have c9 := Nat.eq_of_beq_eq_true r9
                      have c10 := Nat.le_of_ble_eq_true r10
                      have c11 := Nat.le_of_ble_eq_true r11
                      have c12 := Nat.le_of_ble_eq_true r12
                      have c13 := Nat.le_of_ble_eq_true r13
                      have c14 := Nat.le_of_ble_eq_true r14
                      clear r1 r2 r3 r4 r5 r6 r7 r9 r10 r11 r12 r13 r14
                      obtain ⟨-, b0, eb0, g0⟩ := nk_kn_ok (E := E) hR.1.1 hk0
                      obtain ⟨-, b1, eb1, g1⟩ := nk_kn_ok (E := E) hR.1.1 hk1
                      obtain ⟨zn, ezn, zn1, zn2⟩ := nk_iv_ok him (hR.1.1 n vn hvn)
                      obtain ⟨zd, ezd, zd1, zd2⟩ := nk_iv_ok hid (hR.1.1 dp vd hvd)
                      obtain ⟨zs, ezs, zs1, zs2⟩ := nk_iv_ok his (hR.1.1 sp vs hvs)
                      have hkaA : E.2.1[E.2.2 b0]? = some ka := by rw [g0]; exact hka
                      have hkbA : E.2.1[E.2.2 b1]? = some kb := by rw [g1]; exact hkb
                      have hcell0 := hR.1.2.2.2.2.1 b0 ka hkaA
                      have hcell1 := hR.1.2.2.2.2.1 b1 kb hkbA
                      have ty0 := nk_ty1 c1 c5
                      have ty1 := nk_ty1 c2 c6
                      obtain ⟨t0, ti0, N0, P0, els0⟩ := ka
                      obtain ⟨t1, ti1, N1, P1, els1⟩ := kb
                      dsimp only at c1 c2 c3 c4 c13 c14 c15
                      subst c1 c2 c3 c4
                      obtain ⟨w0, hw0, ok0⟩ := hcell0
                      obtain ⟨w1, hw1, ok1⟩ := hcell1
                      dsimp only at hw0 ok0 hw1 ok1
                      have toI : ∀ {w : Nat → Value} {N : Nat} {v : nkV}, nk_cat v = 0 → (∀ j, j < N → nkOk E.2.2 v (w j)) → ∃ f : Nat → Int32, ∀ j, j < N → w j = .int (f j) := by
                        intro w N v hv hw
                        have h0 : ∀ j : Nat, ∃ a : Int32, j < N → w j = .int a := fun j => by
                          by_cases hj : j < N
                          · obtain ⟨a, ea⟩ := (nk_cat_ok (hw j hj)).1 hv
                            exact ⟨a, fun _ => ea⟩
                          · exact ⟨0, fun h => absurd h hj⟩
                        obtain ⟨f, hf⟩ := Classical.axiomOfChoice h0
                        exact ⟨f, hf⟩
                      have ok0' : ∀ j, j < N0 → nkOk E.2.2 (nk_ty (1, 0, N0, P0, els0) 0) (w0 j) := fun j hj => by rw [← ty0 j]; exact ok0 j hj
                      have ok1' : ∀ j, j < N1 → nkOk E.2.2 (nk_ty (1, 0, N1, P1, els1) 0) (w1 j) := fun j hj => by rw [← ty1 j]; exact ok1 j hj
                      obtain ⟨f, hf0⟩ := toI c7 ok0'
                      obtain ⟨g, hg0⟩ := toI c9 ok1'
                      rw [arrV_cong _ hf0] at hw0
                      rw [arrV_cong _ hg0] at hw1
                      have nn : ∀ {z : Int32}, (18446744073709551616 : Int) ≤ z.toInt + 18446744073709551616 → ¬ z < 0 ∧ (z.toNatClampNeg : Int) = z.toInt := fun {z} hz => by
                        obtain ⟨j, hj, ej, ejj⟩ := nh_nI (x := z) (by omega)
                        refine ⟨fun q => ?_, by rw [ejj, ej, nI_clamp hj]⟩
                        have := Int32.lt_iff_toInt_lt.mp q
                        rw [show (0 : Int32).toInt = 0 from rfl] at this
                        omega
                      obtain ⟨nn1, nn2⟩ := nn (z := zn) (by omega)
                      obtain ⟨nd1, nd2⟩ := nn (z := zd) (by omega)
                      obtain ⟨ns1, ns2⟩ := nn (z := zs) (by omega)
                      have g4 : zs.toNatClampNeg + zn.toNatClampNeg ≤ N0 := by omega
                      have g5 : zd.toNatClampNeg + zn.toNatClampNeg ≤ N1 := by omega
                      have hnf : nativeFrameWords "java/lang/System" "arraycopy" 5 + 11 ≤ 52 := by decide
                      rw [ezn, ezd, eb1, ezs, eb0]
                      refine nh_copyW hx hb (by rw [hml]; exact hR.2.1.1.symm) hown (hts _ h3) (hts _ ceSp_n) (hts _ ceSp_s0) (hts _ ceSp_i0) ((hK.2 0 .int rfl).1) hw0 hw1 ns1 nd1 nn1 g4 g5 hf (by omega) hd (fun H1 L e1 e2 e3 e4 => ?_)
                      have hWr : nkWr E b1 (1, 0, N1, P1, els1) 0 (N1 - 1) H H1 := ⟨hkbA, e2, e3, fun f' cell1 v q1 q2 q3 q4 => by dsimp only at q1; omega⟩
                      obtain ⟨⟨d1, d2, d3, d4, d5⟩, d6, d7, d8⟩ := hR
                      refine k hn ρ H1 _ ls x5 hρ ⟨⟨d1, ?_, d3, d4, hWr.hp (by rw [g1]; exact c16) d5 ⟨_, e1, fun j hj => ?_⟩⟩, d6, s5, ?_⟩
                      · have hm := hWr.me (S := S) d1 d2
                        rw [g1] at hm
                        exact hm
                      · rw [ty1 j]
                        unfold va_cpy
                        split
                        · rename_i hjj
                          have hlt : zs.toNatClampNeg + (j - zd.toNatClampNeg) < N0 := by omega
                          rw [← hf0 _ hlt]
                          exact nk_le_ok c8 (ok0' _ hlt)
                        · rw [← hg0 j hj]
                          exact ok1' j hj
                      · have hfr := hWr.fr (i := 0) (by rw [g1]; exact c15) d8
                        obtain ⟨f1, f2, f3, f4⟩ := hfr
                        refine ⟨f1, f2, fun q hq => ?_, f4⟩
                        rcases List.mem_append.mp hq with hq | hq
                        · exact d8.2.2.1 q hq
                        · rw [e4 q hq, g1]
                          exact (List.getElem?_eq_some_iff.mp hkb).1
                    · cases h
                  · cases hcb
                · cases h
              · cases h
            · cases h
          · cases h
        · rename_i e0
          rw [e0] at h3
          split at h
          · rename_i y x rest hst
            rw [hst] at hs
            obtain ⟨ly, x1, rfl, s1⟩ := hs.inv1
            obtain ⟨lx, x2, rfl, s2⟩ := s1.inv1
            split at h
            · rename_i u w hu hw
              split at h
              · rename_i a b ha hbb
                split at h
                · rename_i hc
                  obtain ⟨hcat, rfl⟩ := nk_r8_ok (E := E) hR.1.1 hc
                  rw [← s2.1] at hcat
                  cases h
                  obtain ⟨zx, ex, a1, a2⟩ := nk_iv_ok ha (hR.1.1 x u hu)
                  obtain ⟨zy, ey, b1, b2⟩ := nk_iv_ok hbb (hR.1.1 y w hw)
                  rw [ex, ey]
                  refine va_mmin hx hb (by rw [hml]; exact hR.2.1.1.symm) hown (hts _ h3) (hts _ ceSp_s1) (hts _ ceSp_i1) (hts _ ceSp_c1) hf (by omega) (Nat.zero_le _) (Nat.zero_le _) hd (k (Nat.le_succ_of_le hn) _ H locs ls _ (hρ.tr hn (nkX.push S.1 ρ _)) (nk_push_ok hR s2 ?_))
                  by_cases hlt : zy < zx
                  · rw [if_pos hlt]
                    have := Int32.lt_iff_toInt_lt.mp hlt
                    exact ⟨zy, rfl, nk_mnI a1 b1 (Or.inr rfl), nk_mnJ (by omega) b2⟩
                  · rw [if_neg hlt]
                    have : ¬ zy.toInt < zx.toInt := fun q => hlt (Int32.lt_iff_toInt_lt.mpr q)
                    exact ⟨zx, rfl, nk_mnI a1 b1 (Or.inl rfl), nk_mnJ a2 (by omega)⟩
                · cases h
              · cases h
            · cases h
          · cases h
        · rename_i e0
          rw [e0] at h3
          split at h
          · rename_i y x rest hst
            rw [hst] at hs
            obtain ⟨ly, x1, rfl, s1⟩ := hs.inv1
            obtain ⟨lx, x2, rfl, s2⟩ := s1.inv1
            split at h
            · rename_i u w hu hw
              split at h
              · rename_i a b ha hbb
                split at h
                · rename_i hc
                  obtain ⟨hcat, rfl⟩ := nk_r8_ok (E := E) hR.1.1 hc
                  rw [← s2.1] at hcat
                  cases h
                  obtain ⟨zx, ex, a1, a2⟩ := nk_iv_ok ha (hR.1.1 x u hu)
                  obtain ⟨zy, ey, b1, b2⟩ := nk_iv_ok hbb (hR.1.1 y w hw)
                  rw [ex, ey]
                  refine va_mmax hx hb (by rw [hml]; exact hR.2.1.1.symm) hown (hts _ h3) (hts _ ceSp_s2) (hts _ ceSp_i1) (hts _ ceSp_c2) hf (by omega) (Nat.zero_le _) (Nat.zero_le _) hd (k (Nat.le_succ_of_le hn) _ H locs ls _ (hρ.tr hn (nkX.push S.1 ρ _)) (nk_push_ok hR s2 ?_))
                  by_cases hlt : zx < zy
                  · rw [if_pos hlt]
                    have := Int32.lt_iff_toInt_lt.mp hlt
                    exact ⟨zy, rfl, nk_mxJ (by omega) b1, nk_mxI a2 b2 (Or.inr rfl)⟩
                  · rw [if_neg hlt]
                    have : ¬ zx.toInt < zy.toInt := fun q => hlt (Int32.lt_iff_toInt_lt.mpr q)
                    exact ⟨zx, rfl, nk_mxJ a1 (by omega), nk_mxI a2 b2 (Or.inl rfl)⟩
                · cases h
              · cases h
            · cases h
          · cases h
        · rename_i e0
          rw [e0] at h3
          split at h
          · rename_i x rest hst
            rw [hst] at hs
            obtain ⟨lx, x2, rfl, s2⟩ := hs.inv1
            split at h
            · rename_i u hu
              split at h
              · rename_i a ha
                split at h
                · rename_i hc
                  obtain ⟨hcat, rfl⟩ := nk_r8_ok (E := E) hR.1.1 hc
                  rw [← s2.1] at hcat
                  cases h
                  obtain ⟨zx, ex, a1, a2⟩ := nk_iv_ok ha (hR.1.1 x u hu)
                  rw [ex]
                  exact va_mabs hx hb (by rw [hml]; exact hR.2.1.1.symm) hown (hts _ h3) (hts _ ceSp_s3) (hts _ ceSp_i1) (hts _ ceSp_c3) hf (by omega) (Nat.zero_le _) (Nat.zero_le _) hd (k (Nat.le_succ_of_le hn) _ H locs ls _ (hρ.tr hn (nkX.push S.1 ρ _)) (nk_push_ok hR s2 (nk_abs_ok a1 a2)))
                · cases h
              · cases h
            · cases h
          · cases h
        · cases h
      · split at h
        · rename_i hoi
          rw [Bool.and_eq_true] at hoi
          have o1 := Nat.eq_of_beq_eq_true hoi.1
          have o2 := Nat.eq_of_beq_eq_true hoi.2
          split at h
          · rename_i y x rest hst
            rw [hst] at hs
            obtain ⟨ly, x1, rfl, s1⟩ := hs.inv1
            obtain ⟨lx, x2, rfl, s2⟩ := s1.inv1
            split at h
            · rename_i w hi hw
              split at h
              · rename_i hc
                rw [Bool.and_eq_true] at hc
                obtain ⟨hcat, rfl⟩ := nk_r8_ok (E := E) hR.1.1 hc.1
                rw [← s2.1] at hcat
                have h := Option.some.inj h
                subst h
                obtain ⟨-, a, ea⟩ := nk_isI_ok (E := E) hR.1.1 hi
                obtain ⟨b, eb, b1, b2⟩ := nk_le_ok hc.2 (hR.1.1 y w hw)
                dsimp only at b1 b2
                have eb5 : b = 5 := Int32.toInt_inj.mp (by rw [show (5 : Int32).toInt = 5 from rfl]; omega)
                rw [ea, eb, eb5]
                subst o2
                have hr := nh_fm5_ok a
                exact nk_fmW (E := E) hF0 o1 hf hlo hR.2.1.1 hcat hd (k (Nat.le_succ_of_le hn) _ H locs ls _ (hρ.tr hn (nkX.push S.1 ρ _)) (nk_push_ok hR s2 ⟨_, rfl, by dsimp only; omega, by dsimp only; omega⟩))
              · cases h
            · cases h
          · cases h
        · cases h
    · cases h
  · cases h
end NK39
