def nhGo (p : Program) (l : Launch) (e : Env) (R : Room) (s : State) (m : MethodId) (args : Array Value) (below : List Frame) (meth : Method) (c : Code) (Q : State → Prop) (E : nhE) (nL : Nat) (pu : Bool) (pc : Nat) (S : nhS) (ρ0 : List Value) : Prop :=
  ∀ (ρ : List Value) (H : Heap) (locs : List Loc) (ls : Array Slot) (st : List Value), nhX ρ0 ρ → nhR E nL pu s.heap S ρ H locs ls st → W p l e R s m args below meth c H locs 0 0 Q (F0 m pc ls st)
def nh_top (vs : List nhV) (is : List Nat) : List nhV := match is with
  | y :: r => match vs[y]? with
    | some a => match r with
      | x :: _ => match vs[x]? with
        | some b => [a, b]
        | none => [a]
      | [] => [a]
    | none => []
  | [] => []
theorem nh_top_ok {Γ : Nat → Int} {g : Nat → Int32} {vs : List nhV} {ρ : List Value} {is : List Nat} {st : List Value} (h : nhAll Γ g vs ρ) (hs : nhSt ρ is st) : nhVs Γ g (nh_top vs is) st := by
  unfold nh_top
  cases is with
  | nil => trivial
  | cons y r =>
    obtain ⟨x, xs, rfl, h1, h2⟩ := hs.inv1
    dsimp only
    cases e1 : vs[y]? with
    | none => trivial
    | some a =>
      obtain ⟨x', q1, q2⟩ := h.2 y a e1
      rw [h1] at q1
      cases q1
      cases r with
      | nil => exact ⟨q2, trivial⟩
      | cons z r =>
        obtain ⟨w, ws, rfl, h3, h4⟩ := h2.inv1
        dsimp only
        cases e2 : vs[z]? with
        | none => exact ⟨q2, trivial⟩
        | some b =>
          obtain ⟨x', q3, q4⟩ := h.2 z b e2
          rw [h3] at q3
          cases q3
          exact ⟨q2, q4, trivial⟩
theorem nhSt.drop {ρ : List Value} : ∀ (n : Nat) {is : List Nat} {st : List Value}, nhSt ρ is st → nhSt ρ (is.drop n) (st.drop n)
  | 0, _, _, h => h
  | n + 1, [], [], h => by simpa using h
  | n + 1, _ :: _, _ :: _, h => nhSt.drop n h.2
  | n + 1, [], _ :: _, h => h.elim
  | n + 1, _ :: _, [], h => h.elim
/-- differences that an operation's answer n has to what it took -/
def nh_d0 (i : Instr) (x y n : Nat) (a b c d : Int) : List nhDf := match i with
  | .iadd => if -2147483648 ≤ a + c ∧ b + d ≤ 2147483647 then (if c = d then [(n, x, c), (x, n, -c)] else []) ++ (if a = b then [(n, y, a), (y, n, -a)] else []) else []
  | .isub => if -2147483648 ≤ a - d ∧ b - c ≤ 2147483647 then (if c = d then [(n, x, -c), (x, n, c)] else []) else []
  | .iand => (if 0 ≤ c then [(n, y, 0)] else []) ++ (if 0 ≤ a then [(n, x, 0)] else [])
  | .irem => if 1 ≤ c then [(n, y, -1)] else []
  | _ => []
def nh_tc (l di : List nhDf) : List nhDf := l ++ l.flatMap (fun q => di.filterMap (fun r => if r.1 == q.2.1 then some (q.1, r.2.1, q.2.2 + r.2.2) else none))
theorem nh_tc_ok {ρ : List Value} {l di : List nhDf} (h1 : nhDi ρ l) (h2 : nhDi ρ di) : nhDi ρ (nh_tc l di) := by
  intro q hq
  rcases List.mem_append.mp hq with h | h
  · exact h1 q h
  · obtain ⟨r, hr, h⟩ := List.mem_flatMap.mp h
    obtain ⟨t, ht, h⟩ := List.mem_filterMap.mp h
    split at h
    · rename_i e
      cases h
      obtain ⟨a, b, a1, a2, a3⟩ := h1 r hr
      obtain ⟨b', d, b1, b2, b3⟩ := h2 t ht
      have e' : t.1 = r.2.1 := by simpa using e
      rw [e', a2] at b1
      cases b1
      exact ⟨a, d, a1, b2, by dsimp only; omega⟩
    · cases h
theorem nh_d0_ok {ρ : List Value} {i : Instr} {x y n : Nat} {a b c d : Int} {u w r : Int32} (hr : nh_bS i u w = some r) (hx : ρ[x]? = some (.int u)) (hy : ρ[y]? = some (.int w)) (hn : ρ[n]? = some (.int r)) (h1 : a ≤ u.toInt) (h2 : u.toInt ≤ b) (h3 : c ≤ w.toInt) (h4 : w.toInt ≤ d) : nhDi ρ (nh_d0 i x y n a b c d) := by
  have ru := fb_rng u
  have rw' := fb_rng w
  intro q hq
  unfold nh_d0 at hq
  split at hq
  · cases hr
    split at hq
    · have e := fb_addI (x := u) (y := w) (by omega) (by omega)
      rcases List.mem_append.mp hq with hq | hq
      · split at hq
        · simp only [List.mem_cons, List.not_mem_nil, or_false] at hq
          rcases hq with rfl | rfl
          · exact ⟨_, _, hn, hx, by dsimp only; omega⟩
          · exact ⟨_, _, hx, hn, by dsimp only; omega⟩
        · cases hq
      · split at hq
        · simp only [List.mem_cons, List.not_mem_nil, or_false] at hq
          rcases hq with rfl | rfl
          · exact ⟨_, _, hn, hy, by dsimp only; omega⟩
          · exact ⟨_, _, hy, hn, by dsimp only; omega⟩
        · cases hq
    · cases hq
  · cases hr
    split at hq
    · have e := fb_subI (x := u) (y := w) (by omega) (by omega)
      split at hq
      · simp only [List.mem_cons, List.not_mem_nil, or_false] at hq
        rcases hq with rfl | rfl
        · exact ⟨_, _, hn, hx, by dsimp only; omega⟩
        · exact ⟨_, _, hx, hn, by dsimp only; omega⟩
      · cases hq
    · cases hq
  · cases hr
    rcases List.mem_append.mp hq with hq | hq
    · split at hq
      · simp only [List.mem_cons, List.not_mem_nil, or_false] at hq
        subst hq
        have e := nh_andR u (y := w) (by omega)
        exact ⟨_, _, hn, hy, by dsimp only; omega⟩
      · cases hq
    · split at hq
      · simp only [List.mem_cons, List.not_mem_nil, or_false] at hq
        subst hq
        have e := nh_andL (x := u) w (by omega)
        exact ⟨_, _, hn, hx, by dsimp only; omega⟩
      · cases hq
  · split at hq
    · simp only [List.mem_cons, List.not_mem_nil, or_false] at hq
      subst hq
      have hb := tmod_bounds (a := u.toInt) (M := w.toInt) (by omega)
      have e := rem_toInt u w
      simp only [nh_bS] at hr
      split at hr
      · cases hr
      · cases hr
        exact ⟨_, _, hn, hy, by dsimp only; omega⟩
    · cases hq
  · cases hq
def nh_isD (i : Instr) : Bool := match i with
  | .iadd => true
  | .isub => true
  | .iand => true
  | .irem => true
  | _ => false
/-- a pure operation's new state -/
def nh_sOp (S : nhS) (i : Instr) (len : Nat) : Option nhS :=
  if nh_isD i = true then match S.2.2.1 with
    | y :: x :: rest => match S.1[x]?, S.1[y]? with
      | some u, some w => match nh_iv u, nh_iv w with
        | some q, some r => if len = 1 then (match nh_b i q.1 q.2 r.1 r.2 with
          | some v => some (S.1 ++ [v], S.2.1, S.1.length :: rest, S.2.2.2.1, nh_tc (nh_d0 i x y S.1.length q.1 q.2 r.1 r.2) S.2.2.2.2.1 ++ S.2.2.2.2.1, S.2.2.2.2.2)
          | none => none) else none
        | _, _ => none
      | _, _ => none
    | _ => none
  else match nh_op i len (nh_top S.1 S.2.2.1) with
    | some (n, v) => some (nh_push S (S.2.2.1.drop n) v)
    | none => none
section NH8
variable {p : Program} {l : Launch} {e : Env} {R : Room} {s : State} {m : MethodId} {args : Array Value} {below : List Frame} {meth : Method} {c : Code} {Q : State → Prop}
variable {cc : ByteArray} {E : nhE} {nL : Nat} {pu : Bool} {pc : Nat} {S : nhS} {ρ0 : List Value}
theorem nh_sOp_ok (hx : p.tables.exec = Jvm.exec) (hb : c.code = cc) {i : Instr} {len : Nat} (hd : decode cc pc = .ok (i, len)) {S' : nhS} (h : nh_sOp S i len = some S')
    (k : nhGo p l e R s m args below meth c Q E nL pu (pc + len) S' ρ0) : nhGo p l e R s m args below meth c Q E nL pu pc S ρ0 := by
  intro ρ H locs ls st hρ hR
  unfold nh_sOp at h
  split at h
  · split at h
    · rename_i y x rest hst
      split at h
      · rename_i u w hu hw
        split at h
        · rename_i q r hq hr
          split at h
          · rename_i hl
            subst hl
            split at h
            · rename_i v hv
              cases h
              have hs := hR.2.2.1
              rw [hst] at hs
              obtain ⟨vy, st1, rfl, hy, hs1⟩ := hs.inv1
              obtain ⟨vx, st2, rfl, hx1, hs2⟩ := hs1.inv1
              obtain ⟨x', g1, g2⟩ := hR.1.2 x u hu
              rw [hx1] at g1; cases g1
              obtain ⟨y', g3, g4⟩ := hR.1.2 y w hw
              rw [hy] at g3; cases g3
              obtain ⟨a, rfl, a1, a2⟩ := nh_iv_ok hq g2
              obtain ⟨b, rfl, b1, b2⟩ := nh_iv_ok hr g4
              obtain ⟨z, hz1, hz2⟩ := nh_b_ok (Γ := E.2.2.1) (g := E.2.2.2) hv a1 a2 b1 b2
              refine nh_bW hx hb hz1 hd (k (ρ ++ [.int z]) H locs ls _ (hρ.tr (nhX.push ρ _)) ?_)
              have h1 := nh_push_ok (v := v) hR hs2 hz2
              have hX := nhX.push ρ (.int z)
              have hn : (ρ ++ [Value.int z])[S.1.length]? = some (.int z) := by rw [← hR.1.1]; exact nhX.last ρ _
              exact nh_dif_ok h1 (nh_tc_ok (nh_d0_ok hz1 (hX _ _ hx1) (hX _ _ hy) hn a1 a2 b1 b2) (hR.2.2.2.2.1.mono hX))
            · cases h
          · cases h
        · cases h
      · cases h
    · cases h
  · split at h
    · rename_i n v hv
      cases h
      obtain ⟨h1, r, h2, h3⟩ := nh_op_ok (H := H) (locs := locs) (cells := 0) (slots := 0) (Q := Q) (p := p) (l := l) (e := e) (R := R) (s := s) (m := m) (args := args) (below := below) (meth := meth) (pc := pc) (ls := ls) hx hb hv hd (nh_top_ok hR.1 hR.2.2.1)
      exact h3 (k (ρ ++ [r]) H locs ls _ (hρ.tr (nhX.push ρ _)) (nh_push_ok hR (hR.2.2.1.drop n) h2))
    · cases h
/-- loads -/
def nh_ldI (i : Instr) (len : Nat) : Option (Nat × Nat) := match i with
  | .iload n => if len = 2 then some (n, 0) else none
  | .iload_n n => if len = 1 then some (n, 0) else none
  | .lload n => if len = 2 then some (n, 1) else none
  | .lload_n n => if len = 1 then some (n, 1) else none
  | .aload n => if len = 2 then some (n, 2) else none
  | .aload_n n => if len = 1 then some (n, 2) else none
  | _ => none
def nh_cat (v : nhV) : Nat := match v.1 with
  | 0 => 0
  | 4 => 0
  | 1 => 1
  | 2 => 2
  | 3 => 2
  | _ => 9
theorem nh_cat_ok {Γ : Nat → Int} {g : Nat → Int32} {v : nhV} {x : Value} (h : nhOk Γ g v x) : (nh_cat v = 0 → ∃ a : Int32, x = .int a) ∧ (nh_cat v = 1 → ∃ a : Int64, x = .long a) ∧ (nh_cat v = 2 → x = .null ∨ ∃ a : Nat, x = .ref a) := by
  obtain ⟨t, a, b⟩ := v
  unfold nh_cat
  unfold nhOk at h
  dsimp only at h ⊢
  split
  · obtain ⟨z, e, -⟩ := h
    exact ⟨fun _ => ⟨z, e⟩, fun q => absurd q (by decide), fun q => absurd q (by decide)⟩
  · exact ⟨fun _ => ⟨_, h⟩, fun q => absurd q (by decide), fun q => absurd q (by decide)⟩
  · obtain ⟨z, e, -⟩ := h
    exact ⟨fun q => absurd q (by decide), fun _ => ⟨z, e⟩, fun q => absurd q (by decide)⟩
  · obtain ⟨z, e, -⟩ := h
    exact ⟨fun q => absurd q (by decide), fun q => absurd q (by decide), fun _ => Or.inr ⟨z, e⟩⟩
  · refine ⟨fun q => absurd q (by decide), fun q => absurd q (by decide), fun _ => ?_⟩
    rcases h with h | ⟨z, e, -⟩
    · exact Or.inl h
    · exact Or.inr ⟨z, e⟩
  · exact ⟨fun q => absurd q (by decide), fun q => absurd q (by decide), fun q => absurd q (by decide)⟩
theorem nh_ldW {H : Heap} {locs : List Loc} {ls : Array Slot} {rest : List Value} {cells slots : Nat} (hx : p.tables.exec = Jvm.exec) (hb : c.code = cc) {i : Instr} {len n t : Nat} (h : nh_ldI i len = some (n, t)) (hd : decode cc pc = .ok (i, len)) {x : Value} (hl : ls[n]? = some (.val x))
    (h0 : t = 0 → ∃ a : Int32, x = .int a) (h1 : t = 1 → ∃ a : Int64, x = .long a) (h2 : t = 2 → x = .null ∨ ∃ a : Nat, x = .ref a)
    (k : W p l e R s m args below meth c H locs cells slots Q (F0 m (pc + len) ls (x :: rest))) : W p l e R s m args below meth c H locs cells slots Q (F0 m pc ls rest) := by
  unfold nh_ldI at h
  split at h
  · split at h
    · rename_i q; cases h; subst q
      obtain ⟨a, rfl⟩ := h0 rfl
      exact lv_iload hx hb hd hl k
    · cases h
  · split at h
    · rename_i q; cases h; subst q
      obtain ⟨a, rfl⟩ := h0 rfl
      exact lv_iload_n hx hb hd rfl hl k
    · cases h
  · split at h
    · rename_i q; cases h; subst q
      obtain ⟨a, rfl⟩ := h1 rfl
      exact lv_lload hx hb hd hl k
    · cases h
  · split at h
    · rename_i q; cases h; subst q
      obtain ⟨a, rfl⟩ := h1 rfl
      exact lv_lload_n hx hb hd rfl hl k
    · cases h
  · split at h
    · rename_i q; cases h; subst q
      rcases h2 rfl with rfl | ⟨a, rfl⟩
      · exact lv_aloadN hx hb hd hl k
      · exact lv_aload hx hb hd hl k
    · cases h
  · split at h
    · rename_i q; cases h; subst q
      rcases h2 rfl with rfl | ⟨a, rfl⟩
      · exact lv_aload_nN hx hb hd rfl hl k
      · exact lv_aload_n hx hb hd rfl hl k
    · cases h
  · cases h
def nh_find (lo : List (Nat × Nat)) (n : Nat) : Option Nat := match lo with
  | [] => none
  | q :: r => if q.1 == n then some q.2 else nh_find r n
theorem nh_find_ok {lo : List (Nat × Nat)} {n i : Nat} (h : nh_find lo n = some i) : (n, i) ∈ lo := by
  induction lo with
  | nil => cases h
  | cons q r ih =>
    unfold nh_find at h
    split at h
    · rename_i e1
      cases h
      have : q.1 = n := by simpa using e1
      rw [← this]
      exact List.mem_cons_self
    · exact List.mem_cons_of_mem _ (ih h)
def nh_sLd (S : nhS) (i : Instr) (len : Nat) : Option nhS := match nh_ldI i len with
  | some (n, t) => match nh_find S.2.1 n with
    | some j => match S.1[j]? with
      | some v => if nh_cat v = t then some (S.1, S.2.1, j :: S.2.2.1, S.2.2.2) else none
      | none => none
    | none => none
  | none => none
theorem nh_sLd_ok (hx : p.tables.exec = Jvm.exec) (hb : c.code = cc) {i : Instr} {len : Nat} (hd : decode cc pc = .ok (i, len)) {S' : nhS} (h : nh_sLd S i len = some S')
    (k : nhGo p l e R s m args below meth c Q E nL pu (pc + len) S' ρ0) : nhGo p l e R s m args below meth c Q E nL pu pc S ρ0 := by
  intro ρ H locs ls st hρ hR
  unfold nh_sLd at h
  split at h
  · rename_i n t hi
    split at h
    · rename_i j hj
      split at h
      · rename_i v hv
        split at h
        · rename_i hc
          cases h
          obtain ⟨x, h1, h2⟩ := hR.2.1.2.2 _ (nh_find_ok hj)
          obtain ⟨x', g1, g2⟩ := hR.1.2 j v hv
          dsimp only at h1 h2
          rw [h1] at g1; cases g1
          have hcat := nh_cat_ok g2
          rw [hc] at hcat
          exact nh_ldW hx hb hi hd h2 hcat.1 hcat.2.1 hcat.2.2 (k ρ H locs ls _ hρ (nh_stack_ok (is := j :: S.2.2.1) hR ⟨h1, hR.2.2.1⟩))
        · cases h
      · cases h
    · cases h
  · cases h
end NH8
