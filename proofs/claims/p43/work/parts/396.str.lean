/-! texts (as yet none) -/
def nk_sStr (_kd : List nkKd) (_own : Nat) (_S : nkS) (_i : Instr) (_len : Nat) : Option nkS := none
