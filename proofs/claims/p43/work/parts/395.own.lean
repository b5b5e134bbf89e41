/-! which class a method is of -/
def nhMo : List Nat := [3, 3, 1, 3, 3, 4, 16, 7, 11, 11, 11, 11, 6, 9, 9, 9, 9, 9, 9, 9, 9, 6, 6, 6, 6, 6, 6, 6, 6, 6, 3, 6, 6, 6, 6, 6, 6, 6, 1, 6, 6, 6, 6, 6, 6, 6, 6, 6, 2, 11, 11, 11, 8, 3, 3, 1, 1, 1, 1, 11, 11, 11, 4, 3, 11, 13, 11, 11, 11, 8, 11, 11, 8, 11, 11, 11, 11, 2, 2, 4, 8, 8, 3, 8, 8, 11, 11, 11, 11, 11, 11, 2, 11, 2, 11, 11, 11, 11, 11, 11, 11, 11, 11, 5, 5, 5, 5, 11, 11, 0, 0, 0, 0, 0, 0, 11, 14, 11, 11, 10, 10, 10, 10, 11, 11, 11, 11, 11, 10, 10, 10, 11, 11, 11, 11, 11, 11, 11, 11, 11, 11, 11, 11, 7, 11, 7, 11, 11, 7, 7, 7, 7, 7, 11, 13, 14, 13, 14, 11, 7, 12, 12, 12, 12, 12, 12, 12, 12, 12, 12, 12, 12, 12, 12, 12, 12, 12, 12, 12, 12, 12, 12, 12, 12, 12, 12, 12, 12, 12, 12, 12, 12, 12, 12, 12, 12, 12, 12, 12, 12, 12, 12, 12, 12, 12, 12, 12, 12, 12, 12, 12, 12, 12, 12, 12, 12, 12, 12, 12, 12, 12, 12, 12, 12, 12, 12, 12, 12, 12, 12, 12, 12, 12, 12, 12, 12, 12, 12, 12, 12, 12, 12, 12, 12, 12, 12, 12, 12, 12, 12, 12, 12, 12, 12, 12, 12, 12, 12, 12, 12, 12, 12, 12, 12, 12, 12, 12, 12, 12, 12, 12, 12, 12, 12, 12, 12, 12, 12, 12, 12, 12, 12, 12, 12, 12, 12]
set_option maxRecDepth 100000 in
theorem nhMo_all : (List.range nhMt.length).all (fun i => match nhMt[i]?, nhMo[i]? with
  | some y, some o => decide (nhOw[o]? = some y.1.cls)
  | _, _ => false) = true := by decide +kernel
theorem nhMo_ok {mn : Nat} {y : nhMth} (h : nhMt[mn]? = some y) : ∃ o, nhMo[mn]? = some o ∧ nhOw[o]? = some y.1.cls := by
  have hl := (List.getElem?_eq_some_iff.mp h).1
  have h1 := List.all_eq_true.mp nhMo_all mn (List.mem_range.mpr hl)
  rw [h] at h1
  split at h1
  · rename_i y' o hy ho
    cases hy
    exact ⟨o, ho, of_decide_eq_true h1⟩
  · cases h1
theorem nhCl_ow : (List.range 13).all (fun i => match nhCl[i]?, nhOw[i]? with
  | some r, some o => decide (i = 8 ∨ r.1 = o)
  | _, _ => false) = true := by decide +kernel
theorem nhCl_name {ci : Nat} {r : vw_C} {o : String} (h : nhCl[ci]? = some r) (ho : nhOw[ci]? = some o) (h8 : ci ≠ 8) : r.1 = o := by
  have hl : ci < 13 := (List.getElem?_eq_some_iff.mp h).1
  have h1 := List.all_eq_true.mp nhCl_ow ci (List.mem_range.mpr hl)
  rw [h, ho] at h1
  have := of_decide_eq_true h1
  rcases this with h2 | h2
  · exact absurd h2 h8
  · exact h2
