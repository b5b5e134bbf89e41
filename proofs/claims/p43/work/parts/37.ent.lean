/-! a state enters a pattern: a state whose variables stand for some of its own -/
abbrev nkSg : Type := Nat × List Nat
def nk_idl : Nat → List Nat
  | 0 => []
  | n + 1 => n :: nk_idl n
theorem nk_idl_g : ∀ {n i : Nat}, i < n → nk_g (nk_idl n) n i = some i
  | 0, _, h => by omega
  | n + 1, i, h => by
    rw [nk_idl, nk_g_push]
    split
    · rename_i e; rw [e]
    · exact nk_idl_g (by omega)
def nk_pk (q : nkSg) (ρ : Nat → Value) : Nat → Value := fun i => match nk_g q.2 q.1 i with
  | some j => ρ j
  | none => .null
theorem nk_pk_at {q : nkSg} {ρ : Nat → Value} {i j : Nat} (h : nk_g q.2 q.1 i = some j) : nk_pk q ρ i = ρ j := by
  unfold nk_pk
  rw [h]
/-- more is bound -/
def nkSX (q q' : nkSg) : Prop := ∀ i j, nk_g q.2 q.1 i = some j → nk_g q'.2 q'.1 i = some j
theorem nkSX.rf (q : nkSg) : nkSX q q := fun _ _ h => h
theorem nkSX.tr {a b c : nkSg} (h : nkSX a b) (k : nkSX b c) : nkSX a c := fun i j q => k i j (h i j q)
def nk_bind (q : nkSg) (cv av : Nat) : Option nkSg := match Nat.beq cv q.1 with
  | true => some (q.1 + 1, av :: q.2)
  | false => match nk_g q.2 q.1 cv with
    | some a => match Nat.beq a av with
      | true => some q
      | false => none
    | none => none
theorem nk_bind_ok {q q' : nkSg} {cv av : Nat} (h : nk_bind q cv av = some q') : nkSX q q' ∧ nk_g q'.2 q'.1 cv = some av := by
  unfold nk_bind at h
  split at h
  · rename_i e
    have e := Nat.eq_of_beq_eq_true e
    cases h
    subst e
    refine ⟨fun i j hi => ?_, ?_⟩
    · have := nk_g_lt hi
      dsimp only
      rw [nk_g_push, if_neg (by omega)]
      exact hi
    · dsimp only
      rw [nk_g_push, if_pos rfl]
  · split at h
    · rename_i a ha
      split at h
      · rename_i e
        have e := Nat.eq_of_beq_eq_true e
        cases h
        subst e
        exact ⟨nkSX.rf _, ha⟩
      · cases h
    · cases h
def nk_bLo (lo : List (Nat × Nat)) : List (Nat × Nat) → nkSg → Option nkSg
  | [], σ => some σ
  | q :: r, σ => match nk_find lo q.1 with
    | some j => match nk_bind σ q.2 j with
      | some σ' => nk_bLo lo r σ'
      | none => none
    | none => none
theorem nk_bLo_ok {lo : List (Nat × Nat)} : ∀ {ql : List (Nat × Nat)} {σ σ' : nkSg}, nk_bLo lo ql σ = some σ' → nkSX σ σ' ∧ ∀ q ∈ ql, ∃ j, nk_g σ'.2 σ'.1 q.2 = some j ∧ (q.1, j) ∈ lo
  | [], σ, σ', h => by cases h; exact ⟨nkSX.rf _, fun q hq => by cases hq⟩
  | q :: r, σ, σ', h => by
    unfold nk_bLo at h
    split at h
    · rename_i j hj
      split at h
      · rename_i σ1 hσ
        obtain ⟨a1, a2⟩ := nk_bind_ok hσ
        obtain ⟨b1, b2⟩ := nk_bLo_ok h
        refine ⟨a1.tr b1, fun w hw => ?_⟩
        rcases List.mem_cons.mp hw with rfl | hw
        · exact ⟨j, b1 _ _ a2, nk_find_ok hj⟩
        · exact b2 w hw
      · cases h
    · cases h
def nk_bSt : List Nat → List Nat → nkSg → Option nkSg
  | [], [], σ => some σ
  | c :: cs, j :: js, σ => match nk_bind σ c j with
    | some σ' => nk_bSt cs js σ'
    | none => none
  | _, _, _ => none
theorem nk_bSt_ok {ρ : Nat → Value} : ∀ {cs js : List Nat} {σ σ' : nkSg}, nk_bSt cs js σ = some σ' → nkSX σ σ' ∧ ∀ τ : nkSg, nkSX σ' τ → js.map ρ = cs.map (nk_pk τ ρ) ∧ ∀ c ∈ cs, c < τ.1
  | [], [], σ, σ', h => by cases h; exact ⟨nkSX.rf _, fun _ _ => ⟨rfl, fun c hc => by cases hc⟩⟩
  | c :: cs, j :: js, σ, σ', h => by
    unfold nk_bSt at h
    split at h
    · rename_i σ1 hσ
      obtain ⟨a1, a2⟩ := nk_bind_ok hσ
      obtain ⟨b1, b2⟩ := nk_bSt_ok (ρ := ρ) h
      refine ⟨a1.tr b1, fun τ hτ => ?_⟩
      obtain ⟨c1, c2⟩ := b2 τ hτ
      have c3 := hτ _ _ (b1 _ _ a2)
      refine ⟨?_, fun w hw => ?_⟩
      · rw [List.map_cons, List.map_cons, c1, nk_pk_at c3]
      · rcases List.mem_cons.mp hw with rfl | hw
        · exact nk_g_lt c3
        · exact c2 w hw
    · cases h
  | [], _ :: _, _, _, h => by cases h
  | _ :: _, [], _, _, h => by cases h
def nk_bMe (me : List nkMm) : List nkMm → nkSg → Option nkSg
  | [], σ => some σ
  | q :: r, σ => match nk_g σ.2 σ.1 q.1 with
    | some o => match nk_mf me o q.2.1 with
      | some x => match nk_bind σ q.2.2 x with
        | some σ' => nk_bMe me r σ'
        | none => none
      | none => none
    | none => none
theorem nk_bMe_ok {E : nkE} {n : Nat} {ρ : Nat → Value} {H : Heap} {me : List nkMm} (hm : nkMe E n ρ H me) : ∀ {ms : List nkMm} {σ σ' : nkSg}, nk_bMe me ms σ = some σ' → nkSX σ σ' ∧ ∀ τ : nkSg, nkSX σ' τ → nkMe E τ.1 (nk_pk τ ρ) H ms
  | [], σ, σ', h => by cases h; exact ⟨nkSX.rf _, fun _ _ q hq => by cases hq⟩
  | q :: r, σ, σ', h => by
    unfold nk_bMe at h
    split at h
    · rename_i o ho
      split at h
      · rename_i x hx
        split at h
        · rename_i σ1 hσ
          obtain ⟨-, -, m3⟩ := hm _ (nk_mf_ok hx)
          dsimp only at m3
          obtain ⟨a1, a2⟩ := nk_bind_ok hσ
          obtain ⟨b1, b2⟩ := nk_bMe_ok hm h
          refine ⟨a1.tr b1, fun τ hτ w hw => ?_⟩
          rcases List.mem_cons.mp hw with rfl | hw
          · have c1 := hτ _ _ (b1 _ _ (a1 _ _ ho))
            have c2 := hτ _ _ (b1 _ _ a2)
            refine ⟨nk_g_lt c1, nk_g_lt c2, ?_⟩
            rw [nk_pk_at c1, nk_pk_at c2]
            exact m3
          · exact b2 τ hτ w hw
        · cases h
      · cases h
    · cases h
/-- each is as the pattern wants it -/
def nk_fitV (S : nkS) : List Nat → List nkV → Bool
  | [], [] => true
  | j :: σ, w :: ws => match nk_g S.2.1 S.1 j with
    | some u => match nk_le u w with
      | true => nk_fitV S σ ws
      | false => false
    | none => false
  | _, _ => false
theorem nk_fitV_ok {E : nkE} {S : nkS} {ρ : Nat → Value} (hA : nkAll E.2.2 S.1 S.2.1 ρ) : ∀ {σ : List Nat} {ws : List nkV} {n : Nat}, nk_fitV S σ ws = true → (∀ j ∈ σ, j < S.1) ∧ ∀ i w, nk_g ws n i = some w → ∃ j, nk_g σ n i = some j ∧ nkOk E.2.2 w (ρ j)
  | [], [], n, _ => ⟨fun j hj => (by cases hj), fun i w h => (by cases h)⟩
  | j :: σ, w :: ws, n, h => by
    unfold nk_fitV at h
    split at h
    · rename_i u hu
      split at h
      · rename_i hl
        obtain ⟨k1, -⟩ := nk_fitV_ok (n := 0) hA h
        refine ⟨fun i hi => ?_, fun i v hi => ?_⟩
        · rcases List.mem_cons.mp hi with rfl | hi
          · exact nk_g_lt hu
          · exact k1 i hi
        · cases n with
          | zero => cases hi
          | succ n =>
            rw [nk_g_push] at hi ⊢
            split at hi
            · rename_i e
              cases hi
              rw [if_pos e]
              exact ⟨j, rfl, nk_le_ok hl (hA j u hu)⟩
            · rename_i e
              rw [if_neg e]
              exact (nk_fitV_ok (n := n) hA h).2 i v hi
      · cases h
    · cases h
  | [], _ :: _, _, h => by cases h
  | _ :: _, [], _, h => by cases h
/-- w ≤ x + c -/
def nk_d1 (S : nkS) (w x c : Nat) : Bool := (Nat.beq w x && (Nat.ble 18446744073709551616 c && nk_isI S w)) || (match nk_g S.2.1 S.1 w, nk_g S.2.1 S.1 x with
  | some u, some v => (match nk_iv u, nk_iv v with
    | some a, some b => Nat.ble (a.2 + 18446744073709551616) (b.1 + c)
    | _, _ => false)
  | _, _ => false)
def nk_dany (f : nkDf → Bool) : List nkDf → Bool
  | [] => false
  | q :: r => match f q with
    | true => true
    | false => nk_dany f r
theorem nk_dany_ok {f : nkDf → Bool} : ∀ {l : List nkDf}, nk_dany f l = true → ∃ q ∈ l, f q = true
  | [], h => by cases h
  | q :: r, h => by
    unfold nk_dany at h
    split at h
    · rename_i e; exact ⟨q, List.mem_cons_self, e⟩
    · obtain ⟨w, h1, h2⟩ := nk_dany_ok h
      exact ⟨w, List.mem_cons_of_mem _ h1, h2⟩
def nk_dle (S : nkS) : Nat → Nat → Nat → Nat → Bool
  | 0, w, x, c => nk_d1 S w x c
  | k + 1, w, x, c => match nk_d1 S w x c with
    | true => true
    | false => nk_dany (fun q => Nat.beq q.1 w && (Nat.ble q.2.2 (c + 18446744073709551616) && nk_dle S k q.2.1 x (c + 18446744073709551616 - q.2.2))) S.2.2.2.2.2.1
theorem nk_d1_ok {E : nkE} {S : nkS} {ρ : Nat → Value} {w x c : Nat} (hA : nkAll E.2.2 S.1 S.2.1 ρ) (h : nk_d1 S w x c = true) : w < S.1 ∧ x < S.1 ∧ ∃ a b : Int32, ρ w = .int a ∧ ρ x = .int b ∧ a.toInt + 18446744073709551616 ≤ b.toInt + (c : Int) := by
  unfold nk_d1 at h
  rw [Bool.or_eq_true] at h
  rcases h with h | h
  · simp only [Bool.and_eq_true] at h
    have h1 := Nat.eq_of_beq_eq_true h.1
    have h2 := Nat.le_of_ble_eq_true h.2.1
    subst h1
    obtain ⟨l1, a, ea⟩ := nk_isI_ok (E := E) hA h.2.2
    exact ⟨l1, l1, a, a, ea, ea, by omega⟩
  · split at h
    · rename_i u v hu hv
      split at h
      · rename_i a b ha hb
        obtain ⟨z, e1, z1, z2⟩ := nk_iv_ok ha (hA _ u hu)
        obtain ⟨y, e2, y1, y2⟩ := nk_iv_ok hb (hA _ v hv)
        have := Nat.le_of_ble_eq_true h
        exact ⟨nk_g_lt hu, nk_g_lt hv, z, y, e1, e2, by omega⟩
      · cases h
    · cases h
theorem nk_dle_ok {E : nkE} {S : nkS} {ρ : Nat → Value} (hA : nkAll E.2.2 S.1 S.2.1 ρ) (hD : nkDi S.1 ρ S.2.2.2.2.2.1) : ∀ {k w x c : Nat}, nk_dle S k w x c = true → w < S.1 ∧ x < S.1 ∧ ∃ a b : Int32, ρ w = .int a ∧ ρ x = .int b ∧ a.toInt + 18446744073709551616 ≤ b.toInt + (c : Int)
  | 0, w, x, c, h => nk_d1_ok hA h
  | k + 1, w, x, c, h => by
    unfold nk_dle at h
    split at h
    · rename_i e; exact nk_d1_ok hA e
    · obtain ⟨q, h1, h2⟩ := nk_dany_ok h
      simp only [Bool.and_eq_true] at h2
      have h3 := Nat.eq_of_beq_eq_true h2.1
      have h4 := Nat.le_of_ble_eq_true h2.2.1
      obtain ⟨g1, g2, a, b, e1, e2, e3⟩ := hD q h1
      obtain ⟨k1, k2, a', b', f1, f2, f3⟩ := nk_dle_ok hA hD h2.2.2
      rw [e2] at f1
      cases f1
      rw [h3] at g1 e1
      exact ⟨g1, k2, a, b', e1, f2, by omega⟩
def nk_diB (S : nkS) (σ : nkSg) : List nkDf → Bool
  | [] => true
  | q :: r => match nk_g σ.2 σ.1 q.1, nk_g σ.2 σ.1 q.2.1 with
    | some w, some x => match nk_dle S 4 w x q.2.2 with
      | true => nk_diB S σ r
      | false => false
    | _, _ => false
theorem nk_diB_ok {E : nkE} {S : nkS} {ρ : Nat → Value} {σ : nkSg} (hA : nkAll E.2.2 S.1 S.2.1 ρ) (hD : nkDi S.1 ρ S.2.2.2.2.2.1) : ∀ {l : List nkDf}, nk_diB S σ l = true → nkDi σ.1 (nk_pk σ ρ) l
  | [], _ => fun q hq => by cases hq
  | q :: r, h => by
    unfold nk_diB at h
    split at h
    · rename_i w x hw hx
      split at h
      · rename_i hl
        intro d hd
        rcases List.mem_cons.mp hd with rfl | hd
        · obtain ⟨-, -, a, b, e1, e2, e3⟩ := nk_dle_ok hA hD hl
          exact ⟨nk_g_lt hw, nk_g_lt hx, a, b, by rw [nk_pk_at hw]; exact e1, by rw [nk_pk_at hx]; exact e2, e3⟩
        · exact nk_diB_ok hA hD h d hd
      · cases h
    · cases h
/-- a state enters a pattern, its first np variables as they are -/
def nk_ent (np : Nat) (P S : nkS) : Option nkSg := match nk_bLo S.2.2.1 P.2.2.1 (np, nk_idl np) with
  | some σ1 => match nk_bSt P.2.2.2.1 S.2.2.2.1 σ1 with
    | some σ2 => match nk_bMe S.2.2.2.2.1 P.2.2.2.2.1 σ2 with
      | some σ => match Nat.beq σ.1 P.1 && (nk_fitV S σ.2 P.2.1 && (nk_diB S σ P.2.2.2.2.2.1 && P.2.2.2.2.2.2.isEmpty)) with
        | true => some σ
        | false => none
      | none => none
    | none => none
  | none => none
theorem nk_ent_ok {E : nkE} {nL : Nat} {Ws : nkWs} {H0 : Heap} {S P : nkS} {ρ : Nat → Value} {H : Heap} {locs : List Loc} {ls : Array Slot} {st : List Value} {np : Nat} {σ : nkSg} (h : nk_ent np P S = some σ) (hR : nkR E nL Ws H0 S ρ H locs ls st) :
    nkR E nL Ws H0 P (nk_pk σ ρ) H locs ls st ∧ nkX np ρ (nk_pk σ ρ) ∧ σ.1 = P.1 ∧ ∀ i j, nk_g σ.2 σ.1 i = some j → j < S.1 := by
  unfold nk_ent at h
  split at h
  · rename_i σ1 h1
    split at h
    · rename_i σ2 h2
      split at h
      · rename_i σ3 h3
        split at h
        · rename_i hc
          cases h
          simp only [Bool.and_eq_true] at hc
          have c1 := Nat.eq_of_beq_eq_true hc.1
          have c2 := hc.2.1
          have c3 := hc.2.2.1
          have c4 : P.2.2.2.2.2.2 = [] := List.isEmpty_iff.mp hc.2.2.2
          obtain ⟨⟨b1, b2, b3, b4, b5⟩, ⟨b6, b7, b8⟩, ⟨b9, b10⟩, b11⟩ := hR
          obtain ⟨l1, l2⟩ := nk_bLo_ok h1
          obtain ⟨s1, s2⟩ := nk_bSt_ok (ρ := ρ) h2
          obtain ⟨m1, m2⟩ := nk_bMe_ok b2 h3
          obtain ⟨f1, f2⟩ := nk_fitV_ok (n := P.1) b1 c2
          rw [← c1] at f2
          refine ⟨⟨⟨fun i w hi => ?_, ?_, ?_, ?_, b5⟩, ⟨b6, b7, fun q hq => ?_⟩, ?_, b11⟩, fun i hi => ?_, c1, fun i j hi => ?_⟩
          · rw [← c1] at hi
            obtain ⟨j, g1, g2⟩ := f2 i w hi
            rw [nk_pk_at g1]
            exact g2
          · rw [← c1]
            exact m2 σ (nkSX.rf _)
          · rw [← c1]
            exact nk_diB_ok b1 b3 c3
          · rw [c4]
            exact fun q hq => by cases hq
          · obtain ⟨j, g1, g2⟩ := l2 q hq
            have g3 := m1 _ _ (s1 _ _ g1)
            rw [← c1, nk_pk_at g3]
            exact ⟨nk_g_lt g3, (b8 _ g2).2⟩
          · obtain ⟨g1, g2⟩ := s2 σ m1
            rw [← c1]
            exact ⟨b9.trans g1, g2⟩
          · exact nk_pk_at (m1 _ _ (s1 _ _ (l1 _ _ (nk_idl_g hi))))
          · have hmem : ∀ {l : List Nat} {n i j : Nat}, nk_g l n i = some j → j ∈ l := by
              intro l
              induction l with
              | nil => intro n i j h; cases h
              | cons x r ih =>
                intro n i j h
                cases n with
                | zero => cases h
                | succ n =>
                  rw [nk_g_push] at h
                  split at h
                  · cases h; exact List.mem_cons_self
                  · exact List.mem_cons_of_mem _ (ih h)
            exact f1 j (hmem hi)
        · cases h
      · cases h
    · cases h
  · cases h
/-! measures -/
abbrev nkMs : Type := List (Nat × Nat × Nat)
def nk_mv (ρ : Nat → Value) (q : Nat × Nat × Nat) : Nat := match q.1 with
  | 0 => q.2.2
  | 1 => match ρ q.2.1 with
    | .int a => ((q.2.2 : Int) - (a.toInt + 18446744073709551616)).toNat
    | _ => 0
  | _ => match ρ q.2.1 with
    | .int a => (a.toInt + 18446744073709551616 - (q.2.2 : Int)).toNat
    | _ => 0
def nk_num (ρ : Nat → Value) : nkMs → Nat
  | [] => 0
  | q :: r => nk_mv ρ q * 1180591620717411303424 ^ r.length + nk_num ρ r
def nk_bnd : nkMs → Bool
  | [] => true
  | q :: r => match Nat.ble q.2.2 36893488147419103232 with
    | true => nk_bnd r
    | false => false
theorem nk_mv_lt (ρ : Nat → Value) {q : Nat × Nat × Nat} (h : q.2.2 ≤ 36893488147419103232) : nk_mv ρ q < 1180591620717411303424 := by
  unfold nk_mv
  split
  · omega
  · split
    · rename_i a _
      have := fb_rng a
      omega
    · omega
  · split
    · rename_i a _
      have := fb_rng a
      omega
    · omega
theorem nk_num_lt (ρ : Nat → Value) : ∀ {ms : nkMs}, nk_bnd ms = true → nk_num ρ ms < 1180591620717411303424 ^ ms.length
  | [], _ => by simp [nk_num]
  | q :: r, h => by
    unfold nk_bnd at h
    split at h
    · rename_i e
      have h1 := nk_mv_lt ρ (q := q) (Nat.le_of_ble_eq_true e)
      have h2 := nk_num_lt ρ (ms := r) h
      rw [nk_num, List.length_cons, Nat.pow_succ]
      generalize 1180591620717411303424 ^ r.length = z at h2 ⊢
      have h3 : nk_mv ρ q * z + z ≤ z * 1180591620717411303424 := by
        rw [← Nat.succ_mul, Nat.mul_comm]
        exact Nat.mul_le_mul_left _ (by omega)
      omega
    · cases h
/-- less, no more -/
def nk_dec (S : nkS) (q q' : Nat × Nat × Nat) : Bool := match q.1, q'.1 with
  | 0, 0 => Nat.blt q'.2.2 q.2.2
  | 1, 1 => Nat.beq q.2.2 q'.2.2 && (nk_dle S 4 q.2.1 q'.2.1 18446744073709551615 && (match nk_g S.2.1 S.1 q.2.1 with
    | some v => (match nk_iv v with
      | some z => Nat.blt z.2 q.2.2
      | none => false)
    | none => false))
  | 2, 2 => Nat.beq q.2.2 q'.2.2 && (nk_dle S 4 q'.2.1 q.2.1 18446744073709551615 && (match nk_g S.2.1 S.1 q.2.1 with
    | some v => (match nk_iv v with
      | some z => Nat.blt q.2.2 z.1
      | none => false)
    | none => false))
  | _, _ => false
def nk_nin (S : nkS) (q q' : Nat × Nat × Nat) : Bool := match q.1, q'.1 with
  | 0, 0 => Nat.ble q'.2.2 q.2.2
  | 1, 1 => Nat.beq q.2.2 q'.2.2 && nk_dle S 4 q.2.1 q'.2.1 18446744073709551616
  | 2, 2 => Nat.beq q.2.2 q'.2.2 && nk_dle S 4 q'.2.1 q.2.1 18446744073709551616
  | _, _ => false
def nk_lex (S : nkS) : nkMs → nkMs → Bool
  | q :: r, q' :: r' => match nk_dec S q q' && Nat.beq r.length r'.length with
    | true => true
    | false => match nk_nin S q q' with
      | true => nk_lex S r r'
      | false => false
  | _, _ => false
theorem nk_dec_ok {E : nkE} {S : nkS} {ρ : Nat → Value} (hA : nkAll E.2.2 S.1 S.2.1 ρ) (hD : nkDi S.1 ρ S.2.2.2.2.2.1) {q q' : Nat × Nat × Nat} (h : nk_dec S q q' = true) : nk_mv ρ q' < nk_mv ρ q := by
  obtain ⟨t, v, b⟩ := q
  obtain ⟨t', v', b'⟩ := q'
  unfold nk_dec at h
  dsimp only at h
  split at h
  · have := nk_blt h
    simp only [nk_mv]
    omega
  · simp only [Bool.and_eq_true] at h
    have h0 := Nat.eq_of_beq_eq_true h.1
    subst h0
    obtain ⟨-, -, a, a', g1, g2, g3⟩ := nk_dle_ok hA hD h.2.1
    have h2 := h.2.2
    split at h2
    · rename_i w hw
      split at h2
      · rename_i z hz
        obtain ⟨y, e, y1, y2⟩ := nk_iv_ok hz (hA _ w hw)
        rw [g1] at e
        cases e
        have := nk_blt h2
        simp only [nk_mv, g1, g2]
        omega
      · cases h2
    · cases h2
  · simp only [Bool.and_eq_true] at h
    have h0 := Nat.eq_of_beq_eq_true h.1
    subst h0
    obtain ⟨-, -, a, a', g1, g2, g3⟩ := nk_dle_ok hA hD h.2.1
    have h2 := h.2.2
    split at h2
    · rename_i w hw
      split at h2
      · rename_i z hz
        obtain ⟨y, e, y1, y2⟩ := nk_iv_ok hz (hA _ w hw)
        rw [g2] at e
        cases e
        have := nk_blt h2
        simp only [nk_mv, g1, g2]
        omega
      · cases h2
    · cases h2
  · cases h
theorem nk_nin_ok {E : nkE} {S : nkS} {ρ : Nat → Value} (hA : nkAll E.2.2 S.1 S.2.1 ρ) (hD : nkDi S.1 ρ S.2.2.2.2.2.1) {q q' : Nat × Nat × Nat} (h : nk_nin S q q' = true) : nk_mv ρ q' ≤ nk_mv ρ q := by
  obtain ⟨t, v, b⟩ := q
  obtain ⟨t', v', b'⟩ := q'
  unfold nk_nin at h
  dsimp only at h
  split at h
  · have := Nat.le_of_ble_eq_true h
    simp only [nk_mv]
    omega
  · simp only [Bool.and_eq_true] at h
    have h0 := Nat.eq_of_beq_eq_true h.1
    subst h0
    obtain ⟨-, -, a, a', g1, g2, g3⟩ := nk_dle_ok hA hD h.2
    simp only [nk_mv, g1, g2]
    omega
  · simp only [Bool.and_eq_true] at h
    have h0 := Nat.eq_of_beq_eq_true h.1
    subst h0
    obtain ⟨-, -, a, a', g1, g2, g3⟩ := nk_dle_ok hA hD h.2
    simp only [nk_mv, g1, g2]
    omega
  · cases h
theorem nk_lex_len {S : nkS} : ∀ {a b : nkMs}, nk_lex S a b = true → a.length = b.length
  | [], _, h => by cases h
  | _ :: _, [], h => by cases h
  | q :: r, q' :: r', h => by
    unfold nk_lex at h
    split at h
    · rename_i e
      rw [Bool.and_eq_true] at e
      rw [List.length_cons, List.length_cons, Nat.eq_of_beq_eq_true e.2]
    · split at h
      · rw [List.length_cons, List.length_cons, nk_lex_len h]
      · cases h
theorem nk_lex_ok {E : nkE} {S : nkS} {ρ : Nat → Value} (hA : nkAll E.2.2 S.1 S.2.1 ρ) (hD : nkDi S.1 ρ S.2.2.2.2.2.1) : ∀ {m m' : nkMs}, nk_lex S m m' = true → nk_bnd m' = true → nk_num ρ m' < nk_num ρ m
  | [], _, h, _ => by cases h
  | _ :: _, [], h, _ => by cases h
  | q :: r, q' :: r', h, hb => by
    unfold nk_bnd at hb
    split at hb
    · unfold nk_lex at h
      split at h
      · rename_i e
        rw [Bool.and_eq_true] at e
        have h1 := nk_dec_ok hA hD e.1
        have h2 := Nat.eq_of_beq_eq_true e.2
        have h3 := nk_num_lt ρ (ms := r') hb
        rw [nk_num, nk_num, h2]
        generalize 1180591620717411303424 ^ r'.length = z at h3 ⊢
        have h4 : nk_mv ρ q' * z + z ≤ nk_mv ρ q * z := by
          rw [← Nat.succ_mul]
          exact Nat.mul_le_mul_right _ (by omega)
        omega
      · split at h
        · rename_i e
          have h1 := nk_nin_ok hA hD e
          have h2 := nk_lex_ok hA hD h hb
          have h3 := nk_lex_len h
          rw [nk_num, nk_num, h3]
          generalize 1180591620717411303424 ^ r'.length = z
          have h4 : nk_mv ρ q' * z ≤ nk_mv ρ q * z := Nat.mul_le_mul_right _ h1
          omega
        · cases h
    · cases hb
