/-- a load from an array of ints, by hand -/
theorem nk_hLd {p : Program} {l : Launch} {e : Env} {R : Room} {s : State} {m : MethodId} {args : Array Value} {below : List Frame} {meth : Method} {c : Code} {Q : State → Prop} {cc : ByteArray} {D : nhD} {Γ : Nat → Nat} {kd : List nkKd} {spt : List (Nat × nkSp)} {mn : Nat} {y : nhMth} {fr lo : Nat} {Ws : nkWs} {pc : Nat} {S : nkS} (hh : nkHc2 p R s m args meth c cc (D, kd, Γ) spt mn y fr lo) (hdk : nk_dk (nk_nD nhDa mn []) pc = some (.iaload, 1)) {x o : Nat} {rest : List Nat} (hst : S.2.2.2.1 = x :: o :: rest) {H0 : Heap} {ρ : Nat → Value} {H : Heap} {locs : List Loc} {ls : Array Slot} {st : List Value} (hR : nkR (D, kd, Γ) y.2.2.1 Ws H0 S ρ H locs ls st) {a N : Nat} (ea : ρ o = .ref a) {z : Nat → Value} (hz : H[a]? = some (arrV (D.2.2 0) N z)) {j : Nat} (ej : ρ x = .int (nI j)) (hj : j < N) (hN : N ≤ 2 ^ 31) {val : Value} (hzv : z j = val) {v : nkV} (hv : nkOk Γ v val)
    (k : ∀ st', nkR (D, kd, Γ) y.2.2.1 Ws H0 (nk_push S rest v) (updV ρ S.1 val) H locs ls st' → W p l e R s m args below meth c H locs 0 0 Q (F0 m (pc + 1) ls st')) : W p l e R s m args below meth c H locs 0 0 Q (F0 m pc ls st) := by
  have hjI : (nI j).toInt = (j : Int) := nI_toInt (by omega)
  have hcl : (nI j).toNatClampNeg = j := nI_clamp (by omega)
  refine nk_hAld hh.2.1.1 (hh.2.1.2.2.1 pc (.iaload, 1) hdk) hst hR (ti := 0) (by decide) ea hz ej (by omega) (by omega) (v := v) (by rw [hcl, hzv]; exact hv) (fun st' hR3 => ?_)
  rw [hcl, hzv] at hR3
  exact k st' hR3
/-- what e() leaves: a good row from f on, and all else of the code as it was -/
def nkReQ (E : nkE) (ρ : Nat → Value) (H1 : Heap) (ρ' : Nat → Value) (zo : Nat → Value) (f : Nat) : Prop := ∃ (ac c' : Nat) (zc : Nat → Value) (h : Nat → Nat), ρ 9 = .ref ac ∧ ρ' 10 = .int (nI c') ∧ H1[ac]? = some (arrV (E.1.2.2 0) 1120 zc) ∧ nkRow zc f c' h ∧ c' ≤ f + 278 ∧ ∀ k, k < 1120 → (k < f ∨ f + 300 ≤ k) → zc k = zo k
