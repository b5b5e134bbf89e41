/-! a long walk in pieces; a branch that both ways come to one end -/
def ce_eqP (x y : Nat × ceV) : Bool := Nat.beq x.1 y.1 && ce_eqV x.2 y.2
theorem ce_eqP_ok (x y : Nat × ceV) (h : ce_eqP x y = true) : x = y := by
  unfold ce_eqP at h
  rw [Bool.and_eq_true] at h
  obtain ⟨x1, x2⟩ := x
  obtain ⟨y1, y2⟩ := y
  have h1 := Nat.eq_of_beq_eq_true h.1
  have h2 := ce_eqV_ok _ _ h.2
  dsimp only at h1 h2
  rw [h1, h2]
def ce_isS (o : Option ceS) (S : ceS) : Bool := match o with
  | some q => Nat.beq q.1 S.1 && (ce_eqL ce_eqP q.2.1 S.2.1 && (ce_eqL ce_eqV q.2.2.1 S.2.2.1 && ce_eqH q.2.2.2 S.2.2.2))
  | none => false
theorem ce_isS_ok {o : Option ceS} {S : ceS} (h : ce_isS o S = true) : o = some S := by
  unfold ce_isS at h
  split at h
  · rename_i q
    rw [Bool.and_eq_true, Bool.and_eq_true, Bool.and_eq_true] at h
    obtain ⟨a, b, c, d⟩ := q
    obtain ⟨a', b', c', d'⟩ := S
    have h1 := Nat.eq_of_beq_eq_true h.1
    have h2 := ce_eqL_ok ce_eqP_ok _ _ h.2.1
    have h3 := ce_eqL_ok ce_eqV_ok _ _ h.2.2.1
    have h4 := ce_eqH_ok _ _ h.2.2.2
    dsimp only at h1 h2 h3 h4
    rw [h1, h2, h3, h4]
  · cases h
theorem ce_seg_add {call : Nat → List ceV → ceHp → Option ceO} {own nL : Nat} {dt : List nhDt} {S' S2 : ceS} {g : Nat} (hg : ce_seg call own nL dt g S' = some S2) : ∀ (f : Nat) (S : ceS), ce_seg call own nL dt f S = some S' → ∃ n, ce_seg call own nL dt n S = some S2
  | 0, S, h => by cases h; exact ⟨g, hg⟩
  | f + 1, S, h => by
    rw [ce_seg] at h
    split at h
    · rename_i S1 hS1
      obtain ⟨n, hn⟩ := ce_seg_add hg f S1 h
      refine ⟨n + 1, ?_⟩
      rw [ce_seg, hS1]
      exact hn
    · cases h
def ceRch (call : Nat → List ceV → ceHp → Option ceO) (own nL : Nat) (dt : List nhDt) (S S' : ceS) : Prop := ∃ n, ce_seg call own nL dt n S = some S'
theorem ceRch.of {call : Nat → List ceV → ceHp → Option ceO} {own nL : Nat} {dt : List nhDt} {S S' : ceS} {f : Nat} (h : ce_seg call own nL dt f S = some S') : ceRch call own nL dt S S' := ⟨f, h⟩
theorem ceRch.and {call : Nat → List ceV → ceHp → Option ceO} {own nL : Nat} {dt : List nhDt} {S S' S2 : ceS} {g : Nat} (h : ceRch call own nL dt S S') (hg : ce_seg call own nL dt g S' = some S2) : ceRch call own nL dt S S2 := by
  obtain ⟨f, hf⟩ := h
  exact ce_seg_add hg f S hf
def ce_mC (mn nL own : Nat) (rt : Option FieldType) : Bool := match ce_m mn with
  | some y => decide (mn < 1000 ∧ nhOw[ce_ow mn]? = some y.1.cls ∧ y.2.2.1 = nL ∧ y.2.2.2.1 = rt ∧ ce_ow mn = own)
  | none => false
theorem ce_met_fork {mn nL own d pc t f1 f2 : Nat} {rt : Option FieldType} {cd : ClassFile.Cond} {off : Int} {as st : List ceV} {lo : List (Nat × ceV)} {x : ceV} {hp hp1 hpE : ceHp} {rv : Option ceV} {call : Nat → List ceV → ceHp → Option ceO} (hB : ce_mC mn nL own rt = true) (hsum : ce_sum as ≤ nL)
    (hseg : ceRch call own nL (ce_ck (ce_dt mn)) (0, ce_lo0 0 as, [], hp) (pc, lo, x :: st, hp1)) (hi : ce_dk (ce_ck (ce_dt mn)) pc = some (.ifCond cd off, 3)) (ht : nh_tg pc off = some t) (hx : ce_ty x = 0)
    (r1 : ce_run call own nL false (ce_ck (ce_dt mn)) rt f1 (t, lo, st, hp1) 0 0 = some (rv, hpE, 0, 0)) (r2 : ce_run call own nL false (ce_ck (ce_dt mn)) rt f2 (pc + 3, lo, st, hp1) 0 0 = some (rv, hpE, 0, 0))
    (hcall : ∀ mn as hp r hp' c1 z1, call mn as hp = some (r, hp', c1, z1) → ∃ y, ce_m mn = some y ∧ ceMet y d as hp r hp' c1 z1) : ∃ y, ce_m mn = some y ∧ ceMet y (d + 1) as hp rv hpE 0 0 := by
  unfold ce_mC at hB
  split at hB
  · rename_i y hy
    obtain ⟨hmn, hC, hnL, hrt, how⟩ := of_decide_eq_true hB
    subst hnL hrt how
    refine ⟨y, hy, ?_⟩
    obtain ⟨n, hseg⟩ := hseg
    have hm := hy
    unfold ce_m at hm
    rw [if_pos hmn] at hm
    obtain ⟨m1, m2, m3, m4, m5, m6⟩ := nh_mt_ok hm
    intro l D ρ B H0
    refine Met.ofW (cc := y.2.1) (maxL := y.2.2.1) (ret := y.2.2.2.1) m6 rfl ?_
    intro p e s m args below meth c s₁ Bd hml hv
    obtain ⟨rfl, hH, hK, hNs⟩ := hv
    have hts := atoms_spec (ws := nhWs y) Bd.pre
    have hF : nhFx p c s m (as.map (ce_c ρ B)).toArray y.2.1 y.2.2.1 (ce_ow mn) D := ⟨Bd.exec, Bd.bytes, hml, ⟨_, hC, findClass_of_methodNamed Bd.named⟩, fun w hw => hts w (List.mem_cons_of_mem _ hw), hK⟩
    have hdt : ∀ (pc : Nat) (q : Instr × Nat), ce_dk (ce_ck (ce_dt mn)) pc = some q → decode y.2.1 pc = .ok q := fun _ _ hq => ce_dk_ok (ce_dt_ok hy) hq
    have hlv := lv_entry (as.map (ce_c ρ B)) (n := y.2.2.1) (by rw [ce_slen]; exact hsum)
    rw [lg_entry_eq]
    generalize (lg_sl (as.map (ce_c ρ B)) ++ List.replicate (y.2.2.1 - (lg_sl (as.map (ce_c ρ B))).length) Slot.unset).toArray = ls at hlv ⊢
    have k1 := ce_run_ok (l := l) (e := e) (below := below) (ρ := ρ) (B := B) (H0 := H0) hF hdt hNs (ini := false) (fun q => by cases q) Bd.returns Bd.notSynchronized hcall (R := ceRm (d + 1) 0 0) rfl f1 _ 0 0 r1
    have k2 := ce_run_ok (l := l) (e := e) (below := below) (ρ := ρ) (B := B) (H0 := H0) hF hdt hNs (ini := false) (fun q => by cases q) Bd.returns Bd.notSynchronized hcall (R := ceRm (d + 1) 0 0) rfl f2 _ 0 0 r2
    refine ce_seg_ok hF hdt hNs hcall rfl ?_ n _ hseg s.heap [] ls ⟨hlv.1, hlv.2.1, fun q hq => hlv.2.2 (q.1, ce_c ρ B q.2) (by rw [← ce_lo0_eq]; exact List.mem_map.mpr ⟨q, hq, rfl⟩), hH, (fun q hq => by cases hq)⟩
    intro H locs ls hR
    obtain ⟨a, ha⟩ := (ce_ty_ok ρ B (v := x)).1 hx
    show W p l e (ceRm (d + 1) 0 0) s m (as.map (ce_c ρ B)).toArray below meth c H locs 0 0 _ (F0 m pc ls (ce_c ρ B x :: st.map (ce_c ρ B)))
    rw [ha]
    exact nh_ifW hF.1 hF.2.1 (hdt _ _ hi) (nh_tg_ok ht) (fun _ => k1 H locs ls hR) (fun _ => k2 H locs ls hR)
  · cases hB
theorem lx_of2 {mx mm N : Nat} {xs : Nat → Int32} {B : Nat} {bx : List (Int × Int)} (h : ceTwo 14 mx mm cw3 (ce_bx 0 bx)) (hN : N ≤ 5) (h2 : bx.length = N) (h3 : ceIn (fun k => xs (k + 1)) 0 bx) (h4 : bx.all ce_bok = true) : ∃ as, ceTwo 14 mx mm cw3 as ∧ as.map (ce_c (fun k => xs (k + 1)) B) = lx_vals xs 1 (List.replicate N false) := by
  refine ⟨_, h, ?_⟩
  have hv := lx_v xs N 0 []
  rw [List.append_nil] at hv
  rw [ce_bx_ok (fun k => xs (k + 1)) B bx 0 (by omega) h3 h4, h2, ← hv]
  exact (List.append_nil _).symm
