/-! known values: a loop that counts, taken in one stride; the counter is the unknown int 5 -/
def ce_stp (call : Nat → List ceV → ceHp → Option ceO) (own nL : Nat) (dt : List nhDt) (S : ceS) : Option ceS := match ce_dk dt S.1 with
  | some w => (match ce_one own nL false S.1 w.1 w.2 S.2.1 S.2.2.1 S.2.2.2 with
    | some S' => some S'
    | none => match ce_cl own w.1 S.2.2.1 S.2.2.2 with
      | some q => if w.2 = 3 then (match call q.1 q.2.1 S.2.2.2 with
        | some o => if o.2.2.1 = 0 ∧ o.2.2.2 = 0 then some (S.1 + 3, S.2.1, o.1.toList ++ q.2.2, o.2.1) else none
        | none => none) else none
      | none => none)
  | none => none
def ce_seg (call : Nat → List ceV → ceHp → Option ceO) (own nL : Nat) (dt : List nhDt) : Nat → ceS → Option ceS
  | 0, S => some S
  | f + 1, S => match ce_stp call own nL dt S with
    | some S' => ce_seg call own nL dt f S'
    | none => none
def ce_rho (ρ : Nat → Int32) (i : Int32) : Nat → Int32 := fun k => if k = 5 then i else ρ k
/-- a value that does not speak of the unknown int 5 -/
def ce_n5 (v : ceV) : Bool := Nat.ble v.1 3 || (Nat.ble v.1 39 && !(Nat.beq ((v.1 - 4) % 6) 5))
theorem ce_n5_ok {ρ : Nat → Int32} {i : Int32} {B : Nat} {v : ceV} (h : ce_n5 v = true) : ce_c (ce_rho ρ i) B v = ce_c ρ B v := by
  obtain ⟨t, x⟩ := v
  unfold ce_n5 at h
  rw [Bool.or_eq_true] at h
  rcases h with h | h
  · have h : t ≤ 3 := Nat.le_of_ble_eq_true h
    match t, h with
    | 0, _ => rfl
    | 1, _ => rfl
    | 2, _ => rfl
    | 3, _ => rfl
  · rw [Bool.and_eq_true] at h
    have h1 : t ≤ 39 := Nat.le_of_ble_eq_true h.1
    have h2 : (t - 4) % 6 ≠ 5 := ce_nb h.2
    by_cases h4 : 4 ≤ t
    · rw [ce_cU _ B h4, ce_cU _ B h4]
      unfold ce_un ce_rho
      congr 1
      split
      · rw [if_neg (by omega)]
      · split
        · rw [if_neg (by omega)]
        · split
          · rw [if_neg (by omega)]
          · split
            · rw [if_neg (by omega)]
            · split
              · rw [if_neg (by omega)]
              · rw [if_neg (by omega)]
    · have h5 : t ≤ 3 := by omega
      clear h h1 h2 h4
      match t, h5 with
      | 0, _ => rfl
      | 1, _ => rfl
      | 2, _ => rfl
      | 3, _ => rfl
theorem ce_c30 (ρ : Nat → Int32) (B : Nat) : ce_c ρ B (3, 0) = .null := rfl
def ce_h5 (hp : ceHp) : Bool := hp.2.all (fun r => r.all (fun c => c.2.2.all ce_n5))
theorem ce_h5_ok {ρ : Nat → Int32} {i : Int32} {B : Nat} {hp : ceHp} (h : ce_h5 hp = true) {a : Nat} {c : ceC} (hc : ce_get hp a = some c) (k : Nat) : ce_c (ce_rho ρ i) B (c.2.2.getD k (3, 0)) = ce_c ρ B (c.2.2.getD k (3, 0)) := by
  unfold ce_get at hc
  split at hc
  · rename_i r hr
    have h1 := List.all_eq_true.mp h _ (List.mem_of_getElem? hr)
    have h2 := List.all_eq_true.mp h1 _ (List.mem_of_getElem? hc)
    rw [List.getD_eq_getElem?_getD]
    cases hk : c.2.2[k]? with
    | none => exact (ce_c30 _ B).trans (ce_c30 _ B).symm
    | some v => exact ce_n5_ok (List.all_eq_true.mp h2 _ (List.mem_of_getElem? hk))
  · cases hc
theorem ceCell.env {D : nhD} {ρ1 ρ2 : Nat → Int32} {B : Nat} {c1 c2 : ceC} {a : Nat} {H : Heap} (h : ceCell D ρ1 B c1 a H) (h1 : c1.1 = c2.1) (h2 : c1.2.1 = c2.2.1) (h3 : c1.2.2.length = c2.2.2.length) (h4 : ∀ k, ce_c ρ1 B (c1.2.2.getD k (3, 0)) = ce_c ρ2 B (c2.2.2.getD k (3, 0))) : ceCell D ρ2 B c2 a H := by
  have h5 : (fun k => ce_c ρ1 B (c1.2.2.getD k (3, 0))) = (fun k => ce_c ρ2 B (c2.2.2.getD k (3, 0))) := funext h4
  unfold ceCell at h ⊢
  rw [h1, h2, h3, h5] at h
  exact h
def ce_cj (c : ceC) (j : Nat) (v : ceV) : ceC := (c.1, c.2.1, c.2.2.set j v)
theorem ce_cj_get {ρ1 ρ2 : Nat → Int32} {B : Nat} {c : ceC} {j : Nat} {v1 v2 : ceV} (h : ce_c ρ1 B v1 = ce_c ρ2 B v2) (ho : ∀ k, ce_c ρ1 B (c.2.2.getD k (3, 0)) = ce_c ρ2 B (c.2.2.getD k (3, 0))) (k : Nat) : ce_c ρ1 B ((ce_cj c j v1).2.2.getD k (3, 0)) = ce_c ρ2 B ((ce_cj c j v2).2.2.getD k (3, 0)) := by
  unfold ce_cj
  dsimp only
  have ho := ho k
  rw [List.getD_eq_getElem?_getD] at ho
  rw [List.getD_eq_getElem?_getD, List.getD_eq_getElem?_getD]
  rw [List.getElem?_set, List.getElem?_set]
  by_cases e : j = k
  · rw [if_pos e, if_pos e]
    by_cases e2 : j < c.2.2.length
    · rw [if_pos e2, if_pos e2]
      exact h
    · rw [if_neg e2, if_neg e2]
      exact (ce_c30 ρ1 B).trans (ce_c30 ρ2 B).symm
  · rw [if_neg e, if_neg e]
    exact ho
theorem ceRel.env {D : nhD} {ρ1 ρ2 : Nat → Int32} {B : Nat} {H0 : Heap} {nL : Nat} {lo1 lo2 : List (Nat × ceV)} {hp : ceHp} {a : Nat} {c c1 c2 : ceC} {H : Heap} {locs : List Loc} {ls : Array Slot} (h : ceRel D ρ1 B H0 nL lo1 (ce_set hp a c1) H locs ls) (hg : ce_get hp a = some c) (hl : ∀ q ∈ lo2, ∃ q1 ∈ lo1, q1.1 = q.1 ∧ ce_c ρ1 B q1.2 = ce_c ρ2 B q.2) (ho : ∀ (i : Nat) (d : ceC), ce_get hp i = some d → ∀ k, ce_c ρ1 B (d.2.2.getD k (3, 0)) = ce_c ρ2 B (d.2.2.getD k (3, 0)))
    (h1 : c1.1 = c2.1) (h2 : c1.2.1 = c2.2.1) (h3 : c1.2.2.length = c2.2.2.length) (h4 : ∀ k, ce_c ρ1 B (c1.2.2.getD k (3, 0)) = ce_c ρ2 B (c2.2.2.getD k (3, 0))) : ceRel D ρ2 B H0 nL lo2 (ce_set hp a c2) H locs ls := by
  obtain ⟨r1, r2, r3, ⟨r4, r5, r6⟩, r7⟩ := h
  refine ⟨r1, r2, fun q hq => ?_, ⟨r4, r5, fun i d hd => ?_⟩, r7⟩
  · obtain ⟨q1, g1, g2, g3⟩ := hl q hq
    have := r3 q1 g1
    rw [g2, g3] at this
    exact this
  · rw [ce_set_get hg] at hd
    have r6 := r6 i
    rw [ce_set_get hg] at r6
    split at hd
    · rename_i e
      cases hd
      rw [if_pos e] at r6
      exact (r6 _ rfl).env h1 h2 h3 h4
    · rename_i e
      rw [if_neg e] at r6
      exact (r6 _ hd).env rfl rfl rfl (ho i d hd)
theorem ceRel.self {D : nhD} {ρ : Nat → Int32} {B : Nat} {H0 : Heap} {nL : Nat} {lo : List (Nat × ceV)} {hp : ceHp} {a : Nat} {c : ceC} {H : Heap} {locs : List Loc} {ls : Array Slot} (h : ceRel D ρ B H0 nL lo hp H locs ls) (hg : ce_get hp a = some c) : ceRel D ρ B H0 nL lo (ce_set hp a c) H locs ls := by
  obtain ⟨r1, r2, r3, ⟨r4, r5, r6⟩, r7⟩ := h
  refine ⟨r1, r2, r3, ⟨r4, r5, fun i d hd => ?_⟩, r7⟩
  rw [ce_set_get hg] at hd
  split at hd
  · rename_i e
    cases hd
    subst e
    exact r6 _ _ hg
  · exact r6 _ _ hd
def ce_pl : Int := 4294967294
theorem ce_i1 {i : Int32} (h : i.toInt < 2147483647) : (i + 1).toInt = i.toInt + 1 := by
  have h1 := i.le_toInt
  rw [Int32.toInt_add, show (1 : Int32).toInt = 1 from rfl]
  exact Int.bmod_eq_of_le (by omega) (by omega)
theorem ce_plv {ρ : Nat → Int32} {i : Int32} {B : Nat} (h1 : 0 ≤ i.toInt) (h2 : i.toInt ≤ 2147483646) : ce_c (ce_rho ρ i) B (9, ce_pl) = .int i := by
  rw [ce_cU _ B (by omega)]
  unfold ce_un
  rw [if_pos (by omega)]
  show Value.int (ce_clp ce_pl i) = _
  rw [ce_clp_in]
  · rw [show ce_blo ce_pl = 0 from by decide]
    exact h1
  · rw [show ce_bhi ce_pl = 2147483646 from by decide]
    exact h2
theorem ce_plw {ρ : Nat → Int32} {i : Int32} {B : Nat} (h1 : 0 ≤ i.toInt) (h2 : i.toInt ≤ 2147483646) : ce_c (ce_rho ρ i) B (39, ce_pl) = .int (i + 1) := by
  have h := ce_plv (ρ := ρ) (B := B) h1 h2
  rw [ce_cU _ B (by omega)] at h ⊢
  rw [ce_inc1 (t := 9) (by omega) (by omega), Value.int.inj h]
section CE9
variable {p : Program} {l : Launch} {e : Env} {R : Room} {s : State} {m : MethodId} {args : Array Value} {below : List Frame} {meth : Method} {c : Code} {Q : State → Prop} {cc : ByteArray} {own : Nat} {D : nhD} {B : Nat} {H0 : Heap} {nL : Nat}
theorem ce_stp_ok {ρ : Nat → Int32} (hF : nhFx p c s m args cc nL own D) {dt : List nhDt} (hdt : ∀ (pc : Nat) (q : Instr × Nat), ce_dk dt pc = some q → decode cc pc = .ok q) (hNs : ceNs s) {d : Nat} {call : Nat → List ceV → ceHp → Option ceO} (hcall : ∀ mn as hp r hp' c1 z1, call mn as hp = some (r, hp', c1, z1) → ∃ y, ce_m mn = some y ∧ ceMet y d as hp r hp' c1 z1) (hRm : R = ceRm (d + 1) 0 0) {S S' : ceS} (h : ce_stp call own nL dt S = some S')
    (k : ceGo p l e R s m args below meth c Q D ρ B H0 nL 0 0 S') : ceGo p l e R s m args below meth c Q D ρ B H0 nL 0 0 S := by
  obtain ⟨pc, lo, st, hp⟩ := S
  have hf1 : 1 ≤ R.frames := by rw [hRm]; show 1 ≤ d + 1; omega
  have hlo1 : 60 ≤ R.locals := by rw [hRm]; show 60 ≤ 60 * (d + 1); omega
  unfold ce_stp at h
  split at h
  · rename_i w hw'
    have hw : decode cc pc = .ok w := hdt _ _ hw'
    split at h
    · rename_i S1 hS1
      cases h
      exact ce_one_ok hF (ini := false) (fun q => by cases q) hf1 hlo1 (Nat.zero_le _) (Nat.zero_le _) hw hS1 k
    · split at h
      · rename_i q hq
        split at h
        · rename_i h3
          split at h
          · rename_i o ho
            split at h
            · rename_i hz
              cases h
              obtain ⟨r1, hp1, c1, z1⟩ := o
              dsimp only at hz
              obtain ⟨rfl, rfl⟩ := hz
              obtain ⟨y, hy, hM⟩ := hcall _ _ _ _ _ _ _ ho
              have hw' : decode cc pc = .ok (w.1, 3) := by rw [hw, ← h3]
              exact ce_cl_ok hF hNs hRm (mn := q.1) (as := q.2.1) (rest := q.2.2) hq hw' hy hM (Nat.le_refl _) (Nat.le_refl _) k
            · cases h
          · cases h
        · cases h
      · cases h
  · cases h
theorem ce_seg_ok {ρ : Nat → Int32} (hF : nhFx p c s m args cc nL own D) {dt : List nhDt} (hdt : ∀ (pc : Nat) (q : Instr × Nat), ce_dk dt pc = some q → decode cc pc = .ok q) (hNs : ceNs s) {d : Nat} {call : Nat → List ceV → ceHp → Option ceO} (hcall : ∀ mn as hp r hp' c1 z1, call mn as hp = some (r, hp', c1, z1) → ∃ y, ce_m mn = some y ∧ ceMet y d as hp r hp' c1 z1) (hRm : R = ceRm (d + 1) 0 0) {S' : ceS} (k : ceGo p l e R s m args below meth c Q D ρ B H0 nL 0 0 S') : ∀ (f : Nat) (S : ceS), ce_seg call own nL dt f S = some S' → ceGo p l e R s m args below meth c Q D ρ B H0 nL 0 0 S
  | 0, S, h => by cases h; exact k
  | f + 1, S, h => by
    unfold ce_seg at h
    split at h
    · rename_i S1 hS1
      exact ce_stp_ok hF hdt hNs hcall hRm hS1 (ce_seg_ok hF hdt hNs hcall hRm k f S1 h)
    · cases h
theorem ce_loop_ok {ρ : Nat → Int32} (hF : nhFx p c s m args cc nL own D) {dt : List nhDt} (hdt : ∀ (pc : Nat) (q : Instr × Nat), ce_dk dt pc = some q → decode cc pc = .ok q) (hNs : ceNs s) {d : Nat} {call : Nat → List ceV → ceHp → Option ceO} (hcall : ∀ mn as hp r hp' c1 z1, call mn as hp = some (r, hp', c1, z1) → ∃ y, ce_m mn = some y ∧ ceMet y d as hp r hp' c1 z1) (hRm : R = ceRm (d + 1) 0 0)
    {hd pcc ex nb kk a j : Nat} {off : Int} {loR lo' : List (Nat × ceV)} {nv v9 v39 : ceV} {hp : ceHp} {cl : ceC} {N : Int32} (h9 : ∀ i : Int32, 0 ≤ i.toInt → i.toInt ≤ 2147483646 → ce_c (ce_rho ρ i) B v9 = .int i) (h39 : ∀ i : Int32, 0 ≤ i.toInt → i.toInt ≤ 2147483646 → ce_c (ce_rho ρ i) B v39 = .int (i + 1))
    (hcmp : ce_dk dt pcc = some (.if_icmp .ge off, 3)) (ht : nh_tg pcc off = some ex)
    (hhd : ∀ hp, ce_seg call own nL dt 2 (hd, (kk, v9) :: loR, [], hp) = some (pcc, (kk, v9) :: loR, [nv, v9], hp))
    (hbody : ce_seg call own nL dt nb (pcc + 3, (kk, v9) :: loR, [], ce_set hp a (ce_cj cl j v9)) = some (hd, lo', [], ce_set hp a (ce_cj cl j v39)))
    (hlo : ∀ q ∈ (kk, v39) :: loR, q ∈ lo') (hl5 : ∀ q ∈ loR, ce_n5 q.2 = true) (hn5 : ce_n5 nv = true) (hg : ce_get hp a = some cl) (hh5 : ce_h5 hp = true) (hN : ce_c ρ B nv = .int N) (hN0 : 0 ≤ N.toInt) (hN1 : N.toInt ≤ 2147483646)
    (hexit : ceGo p l e R s m args below meth c Q D ρ B H0 nL 0 0 (ex, [], [], ce_set hp a (ce_cj cl j nv))) :
    ∀ (n : Nat) (i : Int32), 0 ≤ i.toInt → i.toInt ≤ N.toInt → N.toInt - i.toInt ≤ n → ceGo p l e R s m args below meth c Q D (ce_rho ρ i) B H0 nL 0 0 (hd, (kk, v9) :: loR, [], ce_set hp a (ce_cj cl j v9)) := by
  have hx := hF.1
  have hb := hF.2.1
  have step : ∀ (i : Int32), 0 ≤ i.toInt → i.toInt ≤ N.toInt → (i.toInt < N.toInt → ceGo p l e R s m args below meth c Q D (ce_rho ρ (i + 1)) B H0 nL 0 0 (hd, (kk, v9) :: loR, [], ce_set hp a (ce_cj cl j v9))) → ceGo p l e R s m args below meth c Q D (ce_rho ρ i) B H0 nL 0 0 (hd, (kk, v9) :: loR, [], ce_set hp a (ce_cj cl j v9)) := by
    intro i hi0 hi1 hnext
    refine ce_seg_ok hF hdt hNs hcall hRm ?_ 2 _ (hhd _)
    intro H locs ls hR
    show W p l e R s m args below meth c H locs 0 0 Q (F0 m pcc ls (ce_c (ce_rho ρ i) B nv :: ce_c (ce_rho ρ i) B v9 :: []))
    rw [ce_n5_ok hn5, hN, h9 i hi0 (by omega)]
    refine nh_icW hx hb (hdt _ _ hcmp) (nh_tg_ok ht) (fun hge => ?_) (fun hlt => ?_)
    · have hge : N.toInt ≤ i.toInt := by simpa [nh_cr] using hge
      have e1 : i = N := Int32.toInt_inj.mp (by omega)
      subst e1
      refine hexit H locs ls (hR.env hg (fun q hq => by cases hq) (fun i' d' hd' k => ce_h5_ok hh5 hd' k) rfl rfl (by simp [ce_cj]) (ce_cj_get (by rw [hN]; exact h9 _ hi0 hN1) (fun k => ce_h5_ok hh5 hg k)))
    · have hlt : i.toInt < N.toInt := by
        have h1 : ¬ N.toInt ≤ i.toInt := by simpa [nh_cr] using hlt
        omega
      have ei : (i + 1).toInt = i.toInt + 1 := ce_i1 (by omega)
      refine ce_seg_ok hF hdt hNs hcall hRm ?_ nb _ hbody H locs ls hR
      intro H locs ls hR
      show W p l e R s m args below meth c H locs 0 0 Q (F0 m hd ls [])
      have hgo : ∀ (H : Heap) (locs : List Loc) (ls : Array Slot), ceRel D (ce_rho ρ (i + 1)) B H0 nL ((kk, v9) :: loR) (ce_set hp a (ce_cj cl j v9)) H locs ls → W p l e R s m args below meth c H locs 0 0 Q (F0 m hd ls []) := hnext hlt
      refine hgo H locs ls (hR.env hg (fun q hq => ?_) (fun i' d' hd' k => by rw [ce_h5_ok hh5 hd' k, ce_h5_ok hh5 hd' k]) rfl rfl (by simp [ce_cj]) (ce_cj_get (by rw [h39 i hi0 (by omega), h9 (i + 1) (by omega) (by omega)]) (fun k => by rw [ce_h5_ok hh5 hg k, ce_h5_ok hh5 hg k])))
      rcases List.mem_cons.mp hq with rfl | hq
      · exact ⟨(kk, v39), hlo _ List.mem_cons_self, rfl, by rw [h39 i hi0 (by omega), h9 (i + 1) (by omega) (by omega)]⟩
      · exact ⟨q, hlo _ (List.mem_cons_of_mem _ hq), rfl, by rw [ce_n5_ok (hl5 q hq), ce_n5_ok (hl5 q hq)]⟩
  intro n
  induction n with
  | zero => exact fun i h0 h1 h2 => step i h0 h1 (fun hlt => by omega)
  | succ n ih => exact fun i h0 h1 h2 => step i h0 h1 (fun hlt => by
      have ei : (i + 1).toInt = i.toInt + 1 := ce_i1 (by omega)
      exact ih (i + 1) (by omega) (by omega) (by omega))
end CE9
