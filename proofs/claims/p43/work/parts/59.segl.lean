/-! segments with loops of their own -/
def nk_lpC (kd : List nkKd) (IT : List nkIn) (spt : List (Nat × nkSp)) (mn : Nat) (y : nhMth) (fr lo : Nat) (Ws : nkWs) (np : Nat) (alts : List nkS) (fuel : Nat) (C : List nkCe) : List nkCe → Bool
  | [] => true
  | ce :: r => match Nat.ble np ce.2.1.1 && (nk_vrs ce.2.1.1 ce.2.2 && nk_rus (fun S => nk_run kd IT spt fuel (nk_md spt mn y) (C, np, some ce.2.2) fr lo Ws S ce.1) np alts (nk_spl kd (nk_md spt mn y).2.2.2.2 ce.1 ce.2.1)) with
    | true => nk_lpC kd IT spt mn y fr lo Ws np alts fuel C r
    | false => false
theorem nk_lpC_ok {kd : List nkKd} {IT : List nkIn} {spt : List (Nat × nkSp)} {mn : Nat} {y : nhMth} {fr lo : Nat} {Ws : nkWs} {np : Nat} {alts : List nkS} {fuel : Nat} {C : List nkCe} : ∀ {l : List nkCe}, nk_lpC kd IT spt mn y fr lo Ws np alts fuel C l = true → ∀ ce ∈ l, np ≤ ce.2.1.1 ∧ nk_vrs ce.2.1.1 ce.2.2 = true ∧ nk_rus (fun S => nk_run kd IT spt fuel (nk_md spt mn y) (C, np, some ce.2.2) fr lo Ws S ce.1) np alts (nk_spl kd (nk_md spt mn y).2.2.2.2 ce.1 ce.2.1) = true
  | [], _, ce, h => by cases h
  | x :: r, h, ce, hce => by
    unfold nk_lpC at h
    split at h
    · rename_i hc
      simp only [Bool.and_eq_true] at hc
      rcases List.mem_cons.mp hce with rfl | hce
      · exact ⟨Nat.le_of_ble_eq_true hc.1, hc.2.1, hc.2.2⟩
      · exact nk_lpC_ok h ce hce
    · cases h
def nk_sgL (kd : List nkKd) (IT : List nkIn) (spt : List (Nat × nkSp)) (mn fr lo : Nat) (Ws : nkWs) (ci cx : List nkCe) (np : Nat) (alts : List nkS) (fuel : Nat) (S : nkS) (pc : Nat) : Bool := match nk_nth nhMt mn with
  | some y => Nat.ble np S.1 && (nk_rus (fun S' => nk_run kd IT spt fuel (nk_md spt mn y) (ci ++ cx, np, none) fr lo Ws S' pc) np alts (nk_spl kd (nk_md spt mn y).2.2.2.2 pc S) && nk_lpC kd IT spt mn y fr lo Ws np alts fuel (ci ++ cx) ci)
  | none => false
theorem nk_segL {kd : List nkKd} {IT : List nkIn} {spt : List (Nat × nkSp)} (hIT : ∀ en ∈ IT, nkMetI kd en) {mn : Nat} {y : nhMth} {fr lo : Nat} {Wg Ws : nkWs} {ci cx : List nkCe} {np : Nat} {alts : List nkS} {fuel : Nat} {S : nkS} {pc : Nat} (h : nk_sgL kd IT spt mn fr lo Wg ci cx np alts fuel S pc = true) (hs : nk_sub Wg Ws = true)
    {p : Program} {l : Launch} {e : Env} {R : Room} {s : State} {m : MethodId} {args : Array Value} {below : List Frame} {meth : Method} {c : Code} {cc : ByteArray} {D : nhD} {Γ : Nat → Nat} {Qc : Array Value → State → Outcome → State → Prop} (hh : nkHc2 p R s m args meth c cc (D, kd, Γ) spt mn y fr lo)
    {ρ : Nat → Value} {H : Heap} {locs : List Loc} {ls : Array Slot} {st : List Value} (hR : nkR (D, kd, Γ) y.2.2.1 Ws s.heap S ρ H locs ls st)
    (k : ∀ ce ∈ cx, ∀ (ρ2 : Nat → Value) (H2 : Heap) (locs2 : List Loc) (ls2 : Array Slot) (st2 : List Value), nkX np ρ ρ2 → nkR (D, kd, Γ) y.2.2.1 Ws s.heap ce.2.1 ρ2 H2 locs2 ls2 st2 → nkFr (D, kd, Γ) Wg H H2 [] → W p l e R s m args below meth c H2 locs2 0 0 (MQ below Qc args s 0 0 (nkA (D, kd, Γ))) (F0 m ce.1 ls2 st2))
    (kr : ∀ a ∈ alts, ∀ (ρ2 : Nat → Value) (H2 : Heap) (v : Option Value) (t : State), nkX np ρ ρ2 → nkT (D, kd, Γ) a ρ2 H2 → nkFr (D, kd, Γ) Wg H H2 [] → nkFr (D, kd, Γ) Ws s.heap H2 [] → nkRt a ρ2 v → t.heap = H2 → Qc args s (.returned v) t) :
    W p l e R s m args below meth c H locs 0 0 (MQ below Qc args s 0 0 (nkA (D, kd, Γ))) (F0 m pc ls st) := by
  obtain ⟨hy, hh, hr, hlk⟩ := hh
  unfold nk_sgL at h
  rw [nk_nth_eq, hy] at h
  dsimp only at h
  simp only [Bool.and_eq_true] at h
  obtain ⟨h1, h2, h3⟩ := h
  have h1 := Nat.le_of_ble_eq_true h1
  have hces := nk_lpC_ok h3
  have hun0 : ∀ q : Nat, kd.length ≤ Γ q → H[q]? = s.heap[q]? := fun q hq => hR.2.2.2.2.1 q hq
  have fin : ∀ {n0 : Nat} {ρ0 : Nat → Value} {L' : List nkS}, np ≤ n0 → nkX np ρ ρ0 → nk_fins np alts L' = true → nkFin s args Qc (D, kd, Γ) y.2.2.1 Wg H n0 ρ0 L' := by
    intro n0 ρ0 L' hn0 hX0 hL' F hF ρ1 H1 locs1 ls1 st1 v t g1 g2 g3 g4 g5
    obtain ⟨a, a1, σ, a2⟩ := nk_enA_ok (nk_fins_ok hL' F hF)
    obtain ⟨e1, e2, e3, e4⟩ := nk_ent_ok a2 g3
    have hFg : nkFr (D, kd, Γ) Wg H H1 [] := g3.2.2.2.nil
    refine kr a a1 (nk_pk σ ρ1) H1 v t (fun i hi => ?_) e1.1 hFg (hR.2.2.2.thn hFg hs) ?_ g5
    · rw [e2 i hi, g1 i (Nat.lt_of_lt_of_le hi hn0), hX0 i hi]
    · have hs1 := e1.2.2.1
      have hs2 := g3.2.2.1.1
      rw [hs1.1] at hs2
      unfold nkRt at g4 ⊢
      split at g4
      · rename_i hst
        rw [hst] at hs2
        have hnil : a.2.2.2.1 = [] := by
          cases hq : a.2.2.2.1 with
          | nil => rfl
          | cons x r =>
            rw [hq] at hs2
            have hlen := congrArg List.length hs2
            simp at hlen
        rw [hnil]
        exact g4
      · rename_i r hst
        rw [hst] at hs2
        cases hq : a.2.2.2.1 with
        | nil =>
          rw [hq] at hs2
          have hlen := congrArg List.length hs2
          simp at hlen
        | cons x xs =>
          rw [hq] at hs2
          cases hq2 : xs with
          | cons x2 xs2 =>
            rw [hq2] at hs2
            have hlen := congrArg List.length hs2
            simp at hlen
          | nil =>
            rw [hq2] at hs2
            have h5 : nk_pk σ ρ1 x = ρ1 r := List.head_eq_of_cons_eq hs2
            exact ⟨hs1.2 x (by rw [hq]; exact List.mem_cons_self), by rw [h5]; exact g4.2⟩
      · exact g4.elim
  have hx : ∀ ce ∈ cx, ∀ (ρ1 : Nat → Value) (H1 : Heap) (locs1 : List Loc) (ls1 : Array Slot) (st1 : List Value), nkX np ρ ρ1 → nkR (D, kd, Γ) y.2.2.1 Wg H ce.2.1 ρ1 H1 locs1 ls1 st1 → W p l e R s m args below meth c H1 locs1 0 0 (MQ below Qc args s 0 0 (nkA (D, kd, Γ))) (F0 m ce.1 ls1 st1) := fun ce hce ρ1 H1 locs1 ls1 st1 hX hR1 => k ce hce ρ1 H1 locs1 ls1 st1 hX ⟨hR1.1, hR1.2.1, hR1.2.2.1, hR.2.2.2.thn hR1.2.2.2 hs⟩ hR1.2.2.2.nil
  have hP : ∀ (n : Nat), ∀ ce ∈ ci, ∀ (ρ1 : Nat → Value) (H1 : Heap) (locs1 : List Loc) (ls1 : Array Slot) (st1 : List Value), nkX np ρ ρ1 → nkR (D, kd, Γ) y.2.2.1 Wg H ce.2.1 ρ1 H1 locs1 ls1 st1 → nk_num ρ1 ce.2.2 < n → W p l e R s m args below meth c H1 locs1 0 0 (MQ below Qc args s 0 0 (nkA (D, kd, Γ))) (F0 m ce.1 ls1 st1) := by
    intro n
    induction n with
    | zero => intro ce _ ρ1 H1 locs1 ls1 st1 _ _ h; exact absurd h (Nat.not_lt_zero _)
    | succ n ih =>
      intro ce hce ρ1 H1 locs1 ls1 st1 hX hR1 hn
      obtain ⟨z1, z2, z3⟩ := hces ce hce
      obtain ⟨S', k1, k2, ρ', k4, k3⟩ := nk_spl_ok (pc := ce.1) hR1 (sp := (nk_md spt mn y).2.2.2.2)
      obtain ⟨L', r1, r2⟩ := nk_rus_ok z3 S' k1
      refine nk_run_ok hIT fuel (nk_md spt mn y) (ci ++ cx, np, some ce.2.2) _ _ _ S' ce.1 L' r1 (ρ0 := ρ1) (ρp := ρ) (n0 := ce.2.1.1) rfl hh hun0 hr hlk z1 hX (fun ce' hce' ρ2 H2 locs2 ls2 st2 hX2 hR2 hm => ?_) (fun ms hms ρ2 hX2 => ?_) (fin z1 hX r2) k2 ρ' H1 locs1 ls1 st1 k4 k3
      · rcases List.mem_append.mp hce' with hc | hc
        · refine ih ce' hc ρ2 H2 locs2 ls2 st2 hX2 hR2 ?_
          have := hm _ rfl
          omega
        · exact hx ce' hc ρ2 H2 locs2 ls2 st2 hX2 hR2
      · cases hms
        exact nk_vrs_num hX2 z2
  have hRb : nkR (D, kd, Γ) y.2.2.1 Wg H S ρ H locs ls st := hR.reb
  obtain ⟨S', k1, k2, ρ', k4, k3⟩ := nk_spl_ok (pc := pc) hRb (sp := (nk_md spt mn y).2.2.2.2)
  obtain ⟨L', r1, r2⟩ := nk_rus_ok h2 S' k1
  refine nk_run_ok hIT fuel (nk_md spt mn y) (ci ++ cx, np, none) fr lo Wg S' pc L' r1 (ρ0 := ρ) (ρp := ρ) (n0 := S.1) rfl hh hun0 hr hlk h1 (nkX.rf _ ρ) (fun ce hce ρ2 H2 locs2 ls2 st2 hX2 hR2 _ => ?_) (fun ms hms => by cases hms) (fin h1 (nkX.rf _ ρ) r2) k2 ρ' H locs ls st k4 k3
  rcases List.mem_append.mp hce with hc | hc
  · exact hP _ ce hc ρ2 H2 locs2 ls2 st2 hX2 hR2 (Nat.lt_succ_self _)
  · exact hx ce hc ρ2 H2 locs2 ls2 st2 hX2 hR2
/-! a field of an object -/
def nkFd (E : nkE) (H : Heap) (a f : Nat) (x : Value) : Prop := ∃ (k : nkKd) (cell : Cell), E.2.1[E.2.2 a]? = some k ∧ f < k.2.2.1 ∧ H[a]? = some cell ∧ cell.slots[nkSl E.1 k f]? = some x
theorem nkFd.fn {E : nkE} {H : Heap} {a f : Nat} {x y : Value} (h : nkFd E H a f x) (g : nkFd E H a f y) : x = y := by
  obtain ⟨k, cell, h1, h2, h3, h4⟩ := h
  obtain ⟨k', cell', g1, g2, g3, g4⟩ := g
  rw [h1] at g1
  cases g1
  rw [h3] at g3
  cases g3
  rw [h4] at g4
  exact Option.some.inj g4
theorem nkFd.kept {E : nkE} {H H' : Heap} {Ws : nkWs} {a f : Nat} {x : Value} (hk : nkKp E Ws H H') (ho : nk_off Ws (E.2.2 a) f = true) (h : nkFd E H a f x) : nkFd E H' a f x := by
  obtain ⟨k, cell, h1, h2, h3, h4⟩ := h
  obtain ⟨c', g1, g2⟩ := hk a k f cell x h1 h2 ho h3 h4
  exact ⟨k, c', h1, h2, g1, g2⟩
theorem nkMe.fd {E : nkE} {n : Nat} {ρ : Nat → Value} {H : Heap} {me : List nkMm} {o f x : Nat} (h : nkMe E n ρ H me) (hq : (o, f, x) ∈ me) {a : Nat} (ea : ρ o = .ref a) : nkFd E H a f (ρ x) := by
  obtain ⟨-, -, a', k', cell, e1, e2, e3, e4, e5⟩ := h _ hq
  dsimp only at e1 e2 e3 e5
  rw [ea] at e1
  cases e1
  exact ⟨k', cell, e2, e3, e4, e5⟩
/-- an object's field has some value -/
theorem nkFd.some {E : nkE} {H : Heap} (hH : nkHc E H) {a f ci n P : Nat} {ts : List nkV} (hk : E.2.1[E.2.2 a]? = some (0, ci, n, P, ts)) (hf : f < n) : ∃ x, nkFd E H a f x ∧ nkOk E.2.2 (ts.getD f (8, 0, 0)) x := by
  obtain ⟨V, h1, h2⟩ := hH a _ hk
  dsimp only at h1 h2
  obtain ⟨cell, q1, q2, q3, q4⟩ := h1
  exact ⟨V f, ⟨_, cell, hk, hf, q1, q4 f hf⟩, h2 f hf⟩
