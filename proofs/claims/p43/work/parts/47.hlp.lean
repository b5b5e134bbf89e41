/-! small helps for proofs by hand -/
theorem nk_nI {x : Int32} {m : Nat} (h : x.toInt = (m : Int)) : x = nI m := by
  obtain ⟨j, hj, e, ej⟩ := nh_nI (x := x) (by omega)
  have : j = m := by omega
  rw [e, this]
theorem nk_di2 {n : Nat} {ρ : Nat → Value} {di : List nkDf} (h : nkDi n ρ di) {a b c : Nat} (hq : (a, b, c) ∈ di) {x y : Int32} (ex : ρ a = .int x) (ey : ρ b = .int y) : x.toInt + 18446744073709551616 ≤ y.toInt + (c : Int) := by
  obtain ⟨-, -, u, w, eu, ew, h⟩ := h _ hq
  dsimp only at eu ew h
  rw [ex] at eu
  rw [ey] at ew
  cases eu
  cases ew
  exact h
theorem nk_int {Γ : Nat → Nat} {lo hi : Nat} {x : Value} (h : nkOk Γ (0, lo, hi) x) : ∃ a : Int32, x = .int a ∧ (lo : Int) ≤ a.toInt + 18446744073709551616 ∧ a.toInt + 18446744073709551616 ≤ (hi : Int) := h
theorem nk_rf {Γ : Nat → Nat} {k j : Nat} {x : Value} (h : nkOk Γ (2, k, j) x) : ∃ a : Nat, x = .ref a ∧ Γ a = k := h
theorem nk_okI {Γ : Nat → Nat} {lo hi : Nat} {a : Int32} (h1 : (lo : Int) ≤ a.toInt + 18446744073709551616) (h2 : a.toInt + 18446744073709551616 ≤ (hi : Int)) : nkOk Γ (0, lo, hi) (.int a) := ⟨a, rfl, h1, h2⟩
