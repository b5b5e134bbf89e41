/-! the reader's stack and row, in a heap -/
def nkEA (E : nkE) (H : Heap) (zo : Nat → Value) (aw av ac f n c u w : Nat) (wants : Bool) : Prop := ∃ zw zs zc : Nat → Value, H[aw]? = some (arrV (E.1.2.2 0) 90 zw) ∧ H[av]? = some (arrV (E.1.2.2 0) 90 zs) ∧ H[ac]? = some (arrV (E.1.2.2 0) 1120 zc) ∧ nkES zw zs zc f n c u w wants ∧ ∀ k, k < 1120 → (k < f ∨ f + 300 ≤ k) → zc k = zo k
theorem nkEA.bnd {E : nkE} {H : Heap} {zo : Nat → Value} {aw av ac f n c u w : Nat} {wants : Bool} (h : nkEA E H zo aw av ac f n c u w wants) : n ≤ 38 ∧ c ≤ f + 278 ∧ w ≤ 7 ∧ u ≤ 30 ∧ f ≤ c := by
  obtain ⟨zw, zs, zc, -, -, -, h, -⟩ := h
  exact h.bnd
def nk_no3 (W : nkWs) (k1 k2 k3 : Nat) : Bool := nk_noK W k1 && (nk_noK W k2 && nk_noK W k3)
theorem nkEA.kept {E : nkE} {W : nkWs} {H H1 : Heap} {zo : Nat → Value} {aw av ac f n c u w : Nat} {wants : Bool} (h : nkEA E H zo aw av ac f n c u w wants) (hf : f ≤ 560) {k1 k2 k3 : Nat} (b : nk_no3 W k1 k2 k3 = true) (hK : nkKp E W H H1) (h1 : nkHc E H1) (e1 : E.2.2 aw = k1) (e2 : E.2.2 av = k2) (e3 : E.2.2 ac = k3) {P1 P2 P3 : Nat} {l1 l2 l3 : List nkV} (q1 : E.2.1[k1]? = some (1, 0, 90, P1, l1)) (q2 : E.2.1[k2]? = some (1, 0, 90, P2, l2)) (q3 : E.2.1[k3]? = some (1, 0, 1120, P3, l3)) : nkEA E H1 zo aw av ac f n c u w wants := by
  have hb := h.bnd
  obtain ⟨zw, zs, zc, g1, g2, g3, hES, hzo⟩ := h
  unfold nk_no3 at b
  simp only [Bool.and_eq_true] at b
  have hk1 : E.2.1[E.2.2 aw]? = some (1, 0, 90, P1, l1) := by rw [e1]; exact q1
  have hk2 : E.2.1[E.2.2 av]? = some (1, 0, 90, P2, l2) := by rw [e2]; exact q2
  have hk3 : E.2.1[E.2.2 ac]? = some (1, 0, 1120, P3, l3) := by rw [e3]; exact q3
  obtain ⟨zw', hw', -⟩ : ∃ z : Nat → Value, H1[aw]? = some (arrV (E.1.2.2 0) 90 z) ∧ True := by
    obtain ⟨z, hz, -⟩ := h1 aw _ hk1
    exact ⟨z, hz, trivial⟩
  obtain ⟨zs', hs', -⟩ : ∃ z : Nat → Value, H1[av]? = some (arrV (E.1.2.2 0) 90 z) ∧ True := by
    obtain ⟨z, hz, -⟩ := h1 av _ hk2
    exact ⟨z, hz, trivial⟩
  obtain ⟨zc', hc', -⟩ : ∃ z : Nat → Value, H1[ac]? = some (arrV (E.1.2.2 0) 1120 z) ∧ True := by
    obtain ⟨z, hz, -⟩ := h1 ac _ hk3
    exact ⟨z, hz, trivial⟩
  have r1 : ∀ j, j < 90 → zw' j = zw j := fun j hj => nk_kpA hK hk1 (by rw [e1]; exact nk_noK_ok b.1 j) hj g1 hw'
  have r2 : ∀ j, j < 90 → zs' j = zs j := fun j hj => nk_kpA hK hk2 (by rw [e2]; exact nk_noK_ok b.2.1 j) hj g2 hs'
  have r3 : ∀ j, j < 1120 → zc' j = zc j := fun j hj => nk_kpA hK hk3 (by rw [e3]; exact nk_noK_ok b.2.2 j) hj g3 hc'
  exact ⟨zw', zs', zc', hw', hs', hc', hES.congr (fun j hj => ⟨r1 j (by omega), r2 j (by omega)⟩) (fun k _ hk => r3 k (by omega)), fun k hk hk2 => (r3 k hk).trans (hzo k hk hk2)⟩
def nkMu (u w n : Nat) (wants : Bool) : Nat := (30 - u) * 200 + cond wants (7 - w) (100 + n)
def nkEH (E : nkE) (ρ : Nat → Value) (H : Heap) (zo : Nat → Value) (f : Nat) (wants : Bool) (ip ic iu iw mu : Nat) : Prop := ∃ aw av ac n c u w : Nat, ρ 1 = .ref aw ∧ ρ 2 = .ref av ∧ ρ 3 = .ref ac ∧ ρ ip = .int (nI n) ∧ ρ ic = .int (nI c) ∧ ρ iu = .int (nI u) ∧ ρ iw = .int (nI w) ∧ nkEA E H zo aw av ac f n c u w wants ∧ mu = nkMu u w n wants
/-- what unit() and behindUnit() leave: a good end (19 variables), or a fault (14) -/
def nkUQ (E : nkE) (ρ : Nat → Value) (H1 : Heap) (v : Option Value) (F : nkS) (ρ' : Nat → Value) (zo : Nat → Value) (f mu fA fS fT fX : Nat) : Prop := (F.1 = 19 → ∃ (wants : Bool) (mu' : Nat), v = some (.int (cond wants 1 0)) ∧ nkEH E ρ' H1 zo f wants 13 14 15 16 mu' ∧ mu' < mu ∧ (wants = false → ∀ a, ρ 0 = .ref a → nkTok E H1 a fA fS fT fX)) ∧ (F.1 = 20 → ∃ (wants : Bool) (mu' : Nat), nkEH E ρ' H1 zo f wants 13 14 15 16 mu')
theorem nk_dval {n : Nat} {ρ : Nat → Value} {di : List nkDf} (h : nkDi n ρ di) {i j c1 c2 x m : Nat} (q1 : (i, j, c1) ∈ di) (q2 : (j, i, c2) ∈ di) (ej : ρ j = .int (nI x)) (hx : x < 2 ^ 31) {d : Int} (hc1 : (c1 : Int) = 18446744073709551616 + d) (hc2 : (c2 : Int) = 18446744073709551616 - d) (hm : (m : Int) = x + d) : ρ i = .int (nI m) := by
  obtain ⟨-, -, a, b, ea, eb, h1⟩ := h _ q1
  dsimp only at ea eb h1
  have h2 := nk_di2 h q2 ej ea
  rw [ej] at eb
  cases eb
  rw [nI_toInt hx] at h1 h2
  rw [ea, nk_nI (x := a) (m := m) (by omega)]
theorem nk_ival {Γ : Nat → Nat} {lo hi x : Nat} (h : nkOk Γ (0, lo, hi) (.int (nI x))) (hx : x < 2 ^ 31) : (lo : Int) ≤ x + 18446744073709551616 ∧ (x : Int) + 18446744073709551616 ≤ hi := by
  obtain ⟨a, e, h1, h2⟩ := nk_int h
  cases e
  rw [nI_toInt hx] at h1 h2
  exact ⟨h1, h2⟩
