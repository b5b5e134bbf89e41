/-! boxes of arguments, by hand -/
theorem lx_in1 {ρ : Nat → Int32} {a b : Int} (h1 : a ≤ (ρ 0).toInt) (h2 : (ρ 0).toInt ≤ b) : ceIn ρ 0 [(a, b)] := fun k c hc => by
  match k, hc with
  | 0, hc => cases hc; exact ⟨h1, h2⟩
  | k + 1, hc => simp at hc
theorem lx_in2 {ρ : Nat → Int32} {a b c d : Int} (h1 : a ≤ (ρ 0).toInt) (h2 : (ρ 0).toInt ≤ b) (h3 : c ≤ (ρ 1).toInt) (h4 : (ρ 1).toInt ≤ d) : ceIn ρ 0 [(a, b), (c, d)] := fun k x hc => by
  match k, hc with
  | 0, hc => cases hc; exact ⟨h1, h2⟩
  | 1, hc => cases hc; exact ⟨h3, h4⟩
  | k + 2, hc => simp at hc
theorem lx_ofG {f : List ceV → Bool} {mx mm N : Nat} {xs : Nat → Int32} {B : Nat} (hf : ∀ as, f as = true → ceTwo 14 mx mm cw3 as) (hN : N ≤ 5) (h : ∃ (n : Nat) (t : List (Nat × Int)) (bx : List (Int × Int)), ce_tk f n t bx = true ∧ bx.length = N ∧ ceIn (fun k => xs (k + 1)) 0 bx) : ∃ as, ceTwo 14 mx mm cw3 as ∧ as.map (ce_c (fun k => xs (k + 1)) B) = lx_vals xs 1 (List.replicate N false) := by
  obtain ⟨n, t, bx, h1, h2, h3⟩ := h
  obtain ⟨r, hr⟩ := ce_tk_ok h1
  obtain ⟨bx', g1, g2, g3, g4⟩ := ce_tree_ok (ρ := fun k => xs (k + 1)) n t _ r hr h3
  refine ⟨_, hf _ g1, ?_⟩
  have hv := lx_v xs N 0 []
  rw [List.append_nil] at hv
  rw [ce_bx_ok (fun k => xs (k + 1)) B bx' 0 (by omega) g3 g4, g2, h2, ← hv]
  exact (List.append_nil _).symm
