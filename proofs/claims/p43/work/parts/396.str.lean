/-! texts (as yet none) -/
def nk_sLds (_kd : List nkKd) (_own : Nat) (_S : nkS) (_i : Instr) (_len : Nat) : Option nkS := none
def nk_sStr (_kd : List nkKd) (_own _fr _lo : Nat) (_S : nkS) (_i : Instr) (_len : Nat) : Option nkS := none
section NK396
variable {p : Program} {l : Launch} {e : Env} {R : Room} {s : State} {m : MethodId} {args : Array Value} {below : List Frame} {meth : Method} {c : Code} {Q : State → Prop}
variable {cc : ByteArray} {E : nkE} {nL own : Nat} {Ws : nkWs} {H0 : Heap} {n0 : Nat} {ρ0 : Nat → Value} {pc : Nat} {S : nkS}
theorem nk_sLds_ok (_hF : nhFx p c s m args cc nL own E.1) (_hZ : nkZ E s) (_hun0 : ∀ q : Nat, E.2.1.length ≤ E.2.2 q → H0[q]? = s.heap[q]?) {i : Instr} {len : Nat} (_hd : decode cc pc = .ok (i, len)) {S' : nkS} (h : nk_sLds E.2.1 own S i len = some S')
    (_k : nkGo p l e R s m args below meth c Q E nL Ws H0 n0 ρ0 (pc + len) S') : nkGo p l e R s m args below meth c Q E nL Ws H0 n0 ρ0 pc S := by
  cases h
theorem nk_sStr_ok (_hF : nhFx p c s m args cc nL own E.1) (_hZ : nkZ E s) (_hun0 : ∀ q : Nat, E.2.1.length ≤ E.2.2 q → H0[q]? = s.heap[q]?) {fr lo : Nat} (_hR1 : R.frames = fr) (_hR2 : R.locals = lo) {i : Instr} {len : Nat} (_hd : decode cc pc = .ok (i, len)) {S' : nkS} (h : nk_sStr E.2.1 own fr lo S i len = some S')
    (_k : nkGo p l e R s m args below meth c Q E nL Ws H0 n0 ρ0 (pc + len) S') : nkGo p l e R s m args below meth c Q E nL Ws H0 n0 ρ0 pc S := by
  cases h
end NK396
