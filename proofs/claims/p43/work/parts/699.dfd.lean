/-! which cells fit what was seen -/
def nkDFa (E : nkE) (H : Heap) (a b1 bT bU bA bS bP bI sn : Nat) : Prop := nkFd E H a 59 (.ref b1) ∧ nkFd E H a 56 (.ref bT) ∧ nkFd E H a 57 (.ref bU) ∧ nkFd E H a 52 (.ref bA) ∧ nkFd E H a 53 (.ref bS) ∧ nkFd E H a 54 (.ref bP) ∧ nkFd E H a 55 (.ref bI) ∧ nkFd E H a 60 (.int (nI sn))
def nkDFc (E : nkE) (H : Heap) (bT bU bA bS bP bI v n : Nat) (k : Int32) : Prop := (∃ x : Int32, nkFd E H bT n (.int x) ∧ k.toInt < x.toInt) ∨ (∃ x : Int32, nkFd E H bU n (.int x) ∧ 0 ≤ x.toInt ∧ x.toInt ≤ k.toInt) ∨ ∃ (q : Nat) (xA xP : Int32), q < 2 ^ 31 ∧ nkFd E H bS n (.int (nI q)) ∧ nkFd E H bA (13 * v + q) (.int xA) ∧ nkFd E H bP n (.int xP) ∧ ((xA = xP ∧ nkFd E H bI n (.int 1)) ∨ (xA ≠ xP ∧ nkFd E H bI n (.int 0)))
def nkDF (E : nkE) (H : Heap) (a v : Nat) (k : Int32) : Prop := ∃ b1 bT bU bA bS bP bI sn : Nat, nkDFa E H a b1 bT bU bA bS bP bI sn ∧ (∃ x : Int32, nkFd E H b1 v (.int x) ∧ x ≠ 0) ∧ ∀ n, n < sn → nkDFc E H bT bU bA bS bP bI v n k
theorem nkDF.kept {E : nkE} {H H1 : Heap} {a v : Nat} {k : Int32} (h : nkDF E H a v k) (hK : nkKp E [] H H1) : nkDF E H1 a v k := by
  have kp : ∀ {b f : Nat} {x : Value}, nkFd E H b f x → nkFd E H1 b f x := fun h => h.kept hK rfl
  obtain ⟨b1, bT, bU, bA, bS, bP, bI, sn, ⟨h1, h2, h3, h4, h5, h6, h7, h8⟩, ⟨x, hx, hx0⟩, hall⟩ := h
  refine ⟨b1, bT, bU, bA, bS, bP, bI, sn, ⟨kp h1, kp h2, kp h3, kp h4, kp h5, kp h6, kp h7, kp h8⟩, ⟨x, kp hx, hx0⟩, fun n hn => ?_⟩
  rcases hall n hn with ⟨x, q1, q2⟩ | ⟨x, q1, q2⟩ | ⟨q, xA, xP, q0, q1, q2, q3, q4⟩
  · exact Or.inl ⟨x, kp q1, q2⟩
  · exact Or.inr (Or.inl ⟨x, kp q1, q2⟩)
  · refine Or.inr (Or.inr ⟨q, xA, xP, q0, kp q1, kp q2, kp q3, ?_⟩)
    rcases q4 with ⟨r1, r2⟩ | ⟨r1, r2⟩
    · exact Or.inl ⟨r1, kp r2⟩
    · exact Or.inr ⟨r1, kp r2⟩
