/-! the two texts of Tokens, and COMPACT_STRINGS: they lie outside, and stay -/
abbrev nkTx0 : String := "land by hedge house at cat goes calls gale draw or and not which step column row tilt night "
abbrev nkTx1 : String := ";()<>=+-*/%"
def nkLen : List Nat := [92, 11]
def nkByt : List (List Int32) := [[108, 97, 110, 100, 32, 98, 121, 32, 104, 101, 100, 103, 101, 32, 104, 111, 117, 115, 101, 32, 97, 116, 32, 99, 97, 116, 32, 103, 111, 101, 115, 32, 99, 97, 108, 108, 115, 32, 103, 97, 108, 101, 32, 100, 114, 97, 119, 32, 111, 114, 32, 97, 110, 100, 32, 110, 111, 116, 32, 119, 104, 105, 99, 104, 32, 115, 116, 101, 112, 32, 99, 111, 108, 117, 109, 110, 32, 114, 111, 119, 32, 116, 105, 108, 116, 32, 110, 105, 103, 104, 116, 32], [59, 40, 41, 60, 62, 61, 43, 45, 42, 47, 37]]
def nkA (E : nkE) : Nat → Prop := fun q => E.2.2 q < E.2.1.length
def nkZ (E : nkE) (U : State) : Prop := ∃ adK adV : Nat → Nat, vk_S 2 nkLen nkByt adK adV (nkA E) U U.heap ∧ (vk_R "NightHouses$Tokens" 72 nkTx0 (adK 0) U ∧ vk_R "NightHouses$Tokens" 56 nkTx1 (adK 1) U) ∧ (∀ i, i < 2 → E.2.2 (adK i) = E.2.1.length + 1 + i) ∧ (∀ a i, i < 2 → E.2.2 a = E.2.1.length + 1 + i → a = adK i) ∧ va_Z "java/lang/String" "COMPACT_STRINGS" "Z" (.int 1) (nkA E) U U.heap ∧ va_Zq "jdk/internal/util/Preconditions" "SIOOBE_FORMATTER" "Ljava/util/function/BiFunction;" (nkA E) U U.heap
theorem nkZ.to {E : nkE} {s U : State} (hW : s.WarmedH U.vm) (hq : ∀ q : Nat, E.2.1.length ≤ E.2.2 q → U.heap[q]? = s.heap[q]?) (h : nkZ E s) : nkZ E U := by
  obtain ⟨adK, adV, h1, ⟨h2, h3⟩, h4, h5, h6⟩ := h
  have hk : ∀ a : Nat, a < s.heap.size → ¬ nkA E a → U.heap[a]? = s.heap[a]? := fun a _ g => hq a (Nat.le_of_not_lt g)
  exact ⟨adK, adV, (h1.kept hk).moved hW.alike, ⟨h2.warm hW, h3.warm hW⟩, h4, h5, (h6.1.kept hk).moved hW.alike, (h6.2.kept hk).moved hW.alike⟩
theorem nkZ.same {E : nkE} {u U : State} (hv : U.vm = u.vm) (hh : U.heap = u.heap) (h : nkZ E u) : nkZ E U := by
  obtain ⟨adK, adV, h1, ⟨h2, h3⟩, h4, h5, h6⟩ := h
  have ha : u.vm.Alike U.vm := by rw [hv]; exact Vm.Alike.refl _
  refine ⟨adK, adV, ?_, ⟨h2.same hv, h3.same hv⟩, h4, h5, ?_⟩
  · rw [hh]; exact h1.moved ha
  · rw [hh]; exact ⟨h6.1.moved ha, h6.2.moved ha⟩
