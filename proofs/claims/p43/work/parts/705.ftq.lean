/-- some cell of the land fits -/
def nkFtQ (E : nkE) (H : Heap) (a : Nat) (k : Int32) (fC fD b : Nat) : Prop := ∃ ca da c d v : Nat, nkFd E H a fC (.ref ca) ∧ nkFd E H ca b (.int (nI c)) ∧ nkFd E H a fD (.ref da) ∧ nkFd E H da b (.int (nI d)) ∧ c ≤ 6 ∧ d ≤ 6 ∧ v < c * d ∧ nkDF E H a v k
