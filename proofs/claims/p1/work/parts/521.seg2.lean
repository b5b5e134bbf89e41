/-! a walk in pieces to a plain return; pc counted out at each step -/
def ce_sgF (call : Nat → List ceV → ceHp → Option ceO) (own nL : Nat) (dt : List nhDt) : Nat → ceS → Option ceS
  | 0, S => some S
  | f + 1, S => ce_fN S.1 (fun pc => match ce_stp call own nL dt (pc, S.2) with
    | some S' => ce_sgF call own nL dt f S'
    | none => none)
theorem ce_sgF_eq {call : Nat → List ceV → ceHp → Option ceO} {own nL : Nat} {dt : List nhDt} : ∀ (f : Nat) (S : ceS), ce_sgF call own nL dt f S = ce_seg call own nL dt f S
  | 0, _ => rfl
  | f + 1, S => by
    rw [ce_sgF, ce_fN_eq, ce_seg]
    show (match ce_stp call own nL dt S with
      | some S' => ce_sgF call own nL dt f S'
      | none => none) = _
    cases ce_stp call own nL dt S with
    | none => rfl
    | some S' => exact ce_sgF_eq f S'
theorem ce_isF_ok {call : Nat → List ceV → ceHp → Option ceO} {own nL : Nat} {dt : List nhDt} {f : Nat} {S S' : ceS} (h : ce_isS (ce_sgF call own nL dt f S) S' = true) : ce_seg call own nL dt f S = some S' := by
  rw [← ce_sgF_eq]
  exact ce_isS_ok h
theorem ce_met_seg {mn nL own d f1 : Nat} {rt : Option FieldType} {as : List ceV} {S : ceS} {hp hpE : ceHp} {rv : Option ceV} {call : Nat → List ceV → ceHp → Option ceO} (hB : ce_mC mn nL own rt = true) (hsum : ce_sum as ≤ nL)
    (hseg : ceRch call own nL (ce_ck (ce_dt mn)) (0, ce_lo0 0 as, [], hp) S) (r1 : ce_run call own nL false (ce_ck (ce_dt mn)) rt f1 S 0 0 = some (rv, hpE, 0, 0))
    (hcall : ∀ mn as hp r hp' c1 z1, call mn as hp = some (r, hp', c1, z1) → ∃ y, ce_m mn = some y ∧ ceMet y d as hp r hp' c1 z1) : ∃ y, ce_m mn = some y ∧ ceMet y (d + 1) as hp rv hpE 0 0 := by
  unfold ce_mC at hB
  split at hB
  · rename_i y hy
    obtain ⟨hmn, hC, hnL, hrt, how⟩ := of_decide_eq_true hB
    subst hnL hrt how
    refine ⟨y, hy, ?_⟩
    obtain ⟨n, hseg⟩ := hseg
    have hm := hy
    unfold ce_m at hm
    rw [if_pos hmn] at hm
    obtain ⟨m1, m2, m3, m4, m5, m6⟩ := nh_mt_ok hm
    intro l D ρ B H0
    refine Met.ofW (cc := y.2.1) (maxL := y.2.2.1) (ret := y.2.2.2.1) m6 rfl ?_
    intro p e s m args below meth c s₁ Bd hml hv
    obtain ⟨rfl, hH, hK, hNs⟩ := hv
    have hts := atoms_spec (ws := nhWs y) Bd.pre
    have hF : nhFx p c s m (as.map (ce_c ρ B)).toArray y.2.1 y.2.2.1 (ce_ow mn) D := ⟨Bd.exec, Bd.bytes, hml, ⟨_, hC, findClass_of_methodNamed Bd.named⟩, fun w hw => hts w (List.mem_cons_of_mem _ hw), hK⟩
    have hdt : ∀ (pc : Nat) (q : Instr × Nat), ce_dk (ce_ck (ce_dt mn)) pc = some q → decode y.2.1 pc = .ok q := fun _ _ hq => ce_dk_ok (ce_dt_ok hy) hq
    have hlv := lv_entry (as.map (ce_c ρ B)) (n := y.2.2.1) (by rw [ce_slen]; exact hsum)
    rw [lg_entry_eq]
    generalize (lg_sl (as.map (ce_c ρ B)) ++ List.replicate (y.2.2.1 - (lg_sl (as.map (ce_c ρ B))).length) Slot.unset).toArray = ls at hlv ⊢
    have k1 := ce_run_ok (l := l) (e := e) (below := below) (ρ := ρ) (B := B) (H0 := H0) hF hdt hNs (ini := false) (fun q => by cases q) Bd.returns Bd.notSynchronized hcall (R := ceRm (d + 1) 0 0) rfl f1 _ 0 0 r1
    exact ce_seg_ok hF hdt hNs hcall rfl k1 n _ hseg s.heap [] ls ⟨hlv.1, hlv.2.1, fun q hq => hlv.2.2 (q.1, ce_c ρ B q.2) (by rw [← ce_lo0_eq]; exact List.mem_map.mpr ⟨q, hq, rfl⟩), hH, (fun q hq => by cases hq)⟩
  · cases hB
