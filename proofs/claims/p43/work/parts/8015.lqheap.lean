/-! the heap behind both constructors, in the kinds; the two texts: printed by h_lqheap.py -/
def lqKr : List Nat := [10, 11, 3, 14, 1, 18, 19, 20, 15, 16, 17, 41, 14, 1, 18, 19, 20, 15, 16, 17, 6, 8, 21, 4, 22, 23, 24, 4, 22, 23, 24, 2, 25, 4, 22, 23, 24, 4, 22, 23, 24, 4, 22, 23, 24, 4, 22, 23, 24, 4, 22, 23, 24, 4, 22, 23, 24, 4, 22, 23, 24, 4, 22, 23, 24, 4, 22, 23, 24, 4, 22, 23, 24, 4, 22, 23, 24, 4, 22, 23, 24, 4, 22, 23, 24, 4, 22, 23, 24, 4, 22, 23, 24, 4, 22, 23, 24, 4, 22, 23, 24, 4, 22, 23, 24, 4, 22, 23, 24, 4, 22, 23, 24, 4, 22, 23, 24, 4, 22, 23, 24, 4, 22, 23, 24, 4, 22, 23, 24, 4, 22, 23, 24, 4, 22, 23, 24, 4, 22, 23, 24, 4, 22, 23, 24, 4, 22, 23, 24, 4, 22, 23, 24, 4, 22, 23, 24, 4, 22, 23, 24, 4, 22, 23, 24, 4, 22, 23, 24, 4, 22, 23, 24, 4, 22, 23, 24, 4, 22, 23, 24, 4, 22, 23, 24, 4, 22, 23, 24, 4, 22, 23, 24, 4, 22, 23, 24, 12, 9, 26, 27, 28, 5, 29, 30, 31, 4, 22, 23, 24, 4, 22, 23, 24, 4, 22, 23, 24, 4, 22, 23, 24, 4, 22, 23, 24, 4, 22, 23, 24, 4, 22, 23, 24, 4, 22, 23, 24, 4, 22, 23, 24, 4, 22, 23, 24, 4, 22, 23, 24, 0, 4, 22, 23, 24, 32, 7, 33, 34, 35, 36, 37, 38, 39, 4, 22, 23, 24, 13, 4, 22, 23, 24, 4, 22, 23, 24, 4, 22, 23, 24]
def lqKm : List Nat := List.replicate 281 84 ++ [40, 42, 43, 44, 46, 48, 49, 50, 51, 52, 53, 54, 55, 56, 57, 58, 82, 83, 59, 80, 81, 60, 61, 62, 63, 64, 65, 66, 67, 68, 69, 70, 71, 72, 73, 74, 75, 76, 77, 78, 79]
def lqGam (KL : List Nat) (B q0 q1 : Nat) (a : Nat) : Nat := if a = q0 then 85 else if a = q1 then 86 else if a < B then 84 else KL.getD (a - B) 84
theorem lqK_len : lqKr.length ≤ 322 ∧ lqKm.length ≤ 322 := by decide +kernel
section LQG
variable {KL : List Nat} {B q0 q1 : Nat}
theorem lqGam_at (h0 : q0 < B) (h1 : q1 < B) (o : Nat) : lqGam KL B q0 q1 (B + o) = KL.getD o 84 := by
  unfold lqGam
  rw [if_neg (by omega), if_neg (by omega), if_neg (by omega), Nat.add_sub_cancel_left]
theorem lqK_out (hlen : KL.length ≤ 322) {i : Nat} (h : KL.getD i 84 < 84) : i < 322 := by
  rcases Nat.lt_or_ge i 322 with q | q
  · exact q
  · rw [List.getD_eq_getElem?_getD, List.getElem?_eq_none (by omega)] at h
    exact absurd h (by decide)
theorem lqGam_in (hlen : KL.length ≤ 322) {a : Nat} (h : lqGam KL B q0 q1 a < 84) : ∃ i, i < 322 ∧ a = B + i ∧ lqGam KL B q0 q1 a = KL.getD i 84 := by
  unfold lqGam at h ⊢
  split at h
  · omega
  · rename_i e0
    split at h
    · omega
    · rename_i e1
      split at h
      · omega
      · rename_i e2
        refine ⟨a - B, lqK_out hlen h, by omega, ?_⟩
        rw [if_neg e0, if_neg e1, if_neg e2]
theorem lqGam_lo {a : Nat} (h : a < B) : 84 ≤ lqGam KL B q0 q1 a := by
  unfold lqGam
  split
  · omega
  · split
    · omega
    · first
        | omega
        | (rw [if_pos h]; omega)
end LQG
def lq_vI (x : Int) (lo hi : Nat) : Bool := match x with
  | .ofNat n => Nat.ble n 2147483647 && (Nat.ble lo (n + 18446744073709551616) && Nat.ble (n + 18446744073709551616) hi)
  | .negSucc n => Nat.ble n 2147483647 && (Nat.ble lo (18446744073709551615 - n) && Nat.ble (18446744073709551615 - n) hi)
theorem lq_vI_ok {x : Int} {lo hi : Nat} (h : lq_vI x lo hi = true) : -2147483648 ≤ x ∧ x < 2147483648 ∧ (lo : Int) ≤ x + 18446744073709551616 ∧ x + 18446744073709551616 ≤ (hi : Int) := by
  unfold lq_vI at h
  split at h
  · rename_i n
    simp only [Bool.and_eq_true] at h
    obtain ⟨h1, h2, h3⟩ := h
    have h1 := Nat.le_of_ble_eq_true h1
    have h2 := Nat.le_of_ble_eq_true h2
    have h3 := Nat.le_of_ble_eq_true h3
    have e : Int.ofNat n = (n : Int) := rfl
    rw [e]
    omega
  · rename_i n
    simp only [Bool.and_eq_true] at h
    obtain ⟨h1, h2, h3⟩ := h
    have h1 := Nat.le_of_ble_eq_true h1
    have h2 := Nat.le_of_ble_eq_true h2
    have h3 := Nat.le_of_ble_eq_true h3
    have e : Int.negSucc n = -((n : Int) + 1) := Int.negSucc_eq n
    rw [e]
    omega
def lq_v (KL : List Nat) (v : ceV) (t : nkV) : Bool := match v.1 with
  | 0 => match t.1 with
    | 0 => lq_vI v.2 t.2.1 t.2.2
    | _ => false
  | 1 => match t.1 with
    | 1 => lq_vI v.2 t.2.1 t.2.2
    | _ => false
  | 2 => match t.1 with
    | 2 => Nat.beq (KL.getD v.2.toNat 84) t.2.1
    | 3 => Nat.beq (KL.getD v.2.toNat 84) t.2.1
    | _ => false
  | 3 => match t.1 with
    | 3 => true
    | _ => false
  | _ => false
theorem lq_v_ok {KL : List Nat} {ρ : Nat → Int32} {B q0 q1 : Nat} (h0 : q0 < B) (h1 : q1 < B) {v : ceV} {t : nkV} (h : lq_v KL v t = true) : nkOk (lqGam KL B q0 q1) t (ce_c ρ B v) := by
  obtain ⟨vt, x⟩ := v
  obtain ⟨tt, lo, hi⟩ := t
  unfold lq_v at h
  dsimp only at h
  split at h
  · split at h
    · have g := lq_vI_ok h
      exact ⟨Int32.ofInt x, rfl, by rw [Int32.toInt_ofInt_of_le (by omega) (by omega)]; exact g.2.2.1, by rw [Int32.toInt_ofInt_of_le (by omega) (by omega)]; exact g.2.2.2⟩
    · cases h
  · split at h
    · have g := lq_vI_ok h
      exact ⟨Int64.ofInt x, rfl, by rw [Int64.toInt_ofInt_of_le (by omega) (by omega)]; exact g.2.2.1, by rw [Int64.toInt_ofInt_of_le (by omega) (by omega)]; exact g.2.2.2⟩
    · cases h
  · split at h
    · exact ⟨B + x.toNat, rfl, (lqGam_at h0 h1 _).trans (Nat.eq_of_beq_eq_true h)⟩
    · exact Or.inr ⟨B + x.toNat, rfl, (lqGam_at h0 h1 _).trans (Nat.eq_of_beq_eq_true h)⟩
    · cases h
  · split at h
    · exact Or.inl rfl
    · cases h
  · cases h
def lq_l (KL : List Nat) (f : Nat → nkV) : Nat → List ceV → Bool
  | _, [] => true
  | j, v :: r => match lq_v KL v (f j) with
    | true => match j with
      | 0 => lq_l KL f 1 r
      | k + 1 => lq_l KL f (k + 2) r
    | false => false
theorem lq_l_ok {KL : List Nat} {ρ : Nat → Int32} {B q0 q1 : Nat} (h0 : q0 < B) (h1 : q1 < B) {f : Nat → nkV} : ∀ {l : List ceV} {j : Nat}, lq_l KL f j l = true → ∀ i, i < l.length → nkOk (lqGam KL B q0 q1) (f (j + i)) (ce_c ρ B (l.getD i (3, 0)))
  | [], _, _, i, hi => absurd hi (Nat.not_lt_zero _)
  | v :: r, j, h, i, hi => by
    unfold lq_l at h
    split at h
    · rename_i hv
      have h2 : lq_l KL f (j + 1) r = true := by
        cases j with
        | zero => exact h
        | succ k => exact h
      cases i with
      | zero => exact lq_v_ok h0 h1 hv
      | succ i =>
        have := lq_l_ok (ρ := ρ) h0 h1 h2 i (Nat.lt_of_succ_lt_succ hi)
        rw [show j + (i + 1) = j + 1 + i by omega]
        exact this
    · cases h
def lq_c (KL : List Nat) (k : nkKd) (c : ceC) : Bool := Nat.ble c.1 1 && (Nat.beq k.1 c.1 && (Nat.beq k.2.1 c.2.1 && (Nat.beq k.2.2.1 c.2.2.length && lq_l KL (nk_ty k) 0 c.2.2)))
theorem lq_c_ok {KL : List Nat} {ρ : Nat → Int32} {B q0 q1 : Nat} (h0 : q0 < B) (h1 : q1 < B) {k : nkKd} {c : ceC} (h : lq_c KL k c = true) {D : nhD} {a : Nat} {H : Heap} (hc : ceCell D ρ B c a H) : nkCell D (lqGam KL B q0 q1) k a H := by
  obtain ⟨k1, k2, k3, k4, k5⟩ := k
  obtain ⟨c1, c2, c3⟩ := c
  simp only [lq_c, Bool.and_eq_true] at h
  obtain ⟨a1, a2, a3, a4, a5⟩ := h
  have a1 := Nat.le_of_ble_eq_true a1
  have a2 := Nat.eq_of_beq_eq_true a2
  have a3 := Nat.eq_of_beq_eq_true a3
  have a4 := Nat.eq_of_beq_eq_true a4
  subst a2 a3 a4
  have hl := lq_l_ok (ρ := ρ) h0 h1 a5
  simp only [Nat.zero_add] at hl
  rcases (show k1 = 0 ∨ k1 = 1 by omega) with rfl | rfl
  · exact ⟨_, hc, hl⟩
  · exact ⟨_, hc, hl⟩
def lq_at (KL : List Nat) (T : List nkKd) (i : Nat) : Bool := Nat.ble 84 (KL.getD i 84) || (match ce_get cw3 i, T[KL.getD i 84]? with
  | some c, some k => lq_c KL k c
  | _, _ => false)
set_option maxRecDepth 1000000 in
theorem lq_atr0 : (List.range 100).all (fun i => lq_at lqKr nkKdL (0 + i)) = true := by decide +kernel
set_option maxRecDepth 1000000 in
theorem lq_atr1 : (List.range 100).all (fun i => lq_at lqKr nkKdL (100 + i)) = true := by decide +kernel
set_option maxRecDepth 1000000 in
theorem lq_atr2 : (List.range 82).all (fun i => lq_at lqKr nkKdL (200 + i)) = true := by decide +kernel
set_option maxRecDepth 1000000 in
theorem lq_atr3 : (List.range 40).all (fun i => lq_at lqKr nkKdL (282 + i)) = true := by decide +kernel
theorem lq_allr {i : Nat} (h : i < 322) : lq_at lqKr nkKdL i = true := by
  by_cases c1 : i < 100
  · have := List.all_eq_true.mp lq_atr0 i (List.mem_range.mpr c1)
    rwa [show 0 + i = i by omega] at this
  · by_cases c2 : i < 200
    · have := List.all_eq_true.mp lq_atr1 (i - 100) (List.mem_range.mpr (by omega))
      rwa [show 100 + (i - 100) = i by omega] at this
    · by_cases c3 : i < 282
      · have := List.all_eq_true.mp lq_atr2 (i - 200) (List.mem_range.mpr (by omega))
        rwa [show 200 + (i - 200) = i by omega] at this
      · have := List.all_eq_true.mp lq_atr3 (i - 282) (List.mem_range.mpr (by omega))
        rwa [show 282 + (i - 282) = i by omega] at this
set_option maxRecDepth 1000000 in
theorem lq_atm0 : (List.range 100).all (fun i => lq_at lqKm nkKds (0 + i)) = true := by decide +kernel
set_option maxRecDepth 1000000 in
theorem lq_atm1 : (List.range 100).all (fun i => lq_at lqKm nkKds (100 + i)) = true := by decide +kernel
set_option maxRecDepth 1000000 in
theorem lq_atm2 : (List.range 82).all (fun i => lq_at lqKm nkKds (200 + i)) = true := by decide +kernel
set_option maxRecDepth 1000000 in
theorem lq_atm3 : (List.range 40).all (fun i => lq_at lqKm nkKds (282 + i)) = true := by decide +kernel
theorem lq_allm {i : Nat} (h : i < 322) : lq_at lqKm nkKds i = true := by
  by_cases c1 : i < 100
  · have := List.all_eq_true.mp lq_atm0 i (List.mem_range.mpr c1)
    rwa [show 0 + i = i by omega] at this
  · by_cases c2 : i < 200
    · have := List.all_eq_true.mp lq_atm1 (i - 100) (List.mem_range.mpr (by omega))
      rwa [show 100 + (i - 100) = i by omega] at this
    · by_cases c3 : i < 282
      · have := List.all_eq_true.mp lq_atm2 (i - 200) (List.mem_range.mpr (by omega))
        rwa [show 200 + (i - 200) = i by omega] at this
      · have := List.all_eq_true.mp lq_atm3 (i - 282) (List.mem_range.mpr (by omega))
        rwa [show 282 + (i - 282) = i by omega] at this
def lq_uqB (KL : List Nat) : Bool := (List.range 322).all (fun i => Nat.blt (KL.getD i 84) 40 || (Nat.ble 84 (KL.getD i 84) || Nat.beq (KL.findIdx (fun x => Nat.beq x (KL.getD i 84))) i))
set_option maxRecDepth 1000000 in
theorem lq_uqT : lq_uqB lqKr = true ∧ lq_uqB lqKm = true := by decide +kernel
def lq_zz (i : Nat) : Bool := match ce_get cw3 i with
  | some c => ce_eqC c (1, 0, [(0, 0), (0, 0)])
  | none => false
set_option maxRecDepth 1000000 in
theorem lq_z82 : lq_zz 297 = true ∧ lq_zz 298 = true ∧ lqKm.getD 297 84 = 82 ∧ lqKm.getD 298 84 = 83 := by decide +kernel
theorem lqKr_80 : (List.range 322).all (fun i => !(Nat.beq (lqKr.getD i 84) 80)) = true := by decide +kernel
theorem lqKr_no : (List.range 322).all (fun i => Nat.blt (lqKr.getD i 84) 40 || (Nat.beq (lqKr.getD i 84) 41 || Nat.ble 84 (lqKr.getD i 84))) = true := by decide +kernel
theorem lqKr_rg : (List.range 322).all (fun i => Nat.blt i 281 || Nat.ble 84 (lqKr.getD i 84)) = true := by decide +kernel
theorem lqKm_rg : (List.range 322).all (fun i => Nat.ble 281 i || Nat.ble 84 (lqKm.getD i 84)) = true := by decide +kernel
theorem lqK_le0 : (List.range 322).all (fun i => Nat.ble (lqKr.getD i 84) 84 && Nat.ble (lqKm.getD i 84) 84) = true := by decide +kernel
theorem lqK_le (i : Nat) : lqKr.getD i 84 ≤ 84 ∧ lqKm.getD i 84 ≤ 84 := by
  rcases Nat.lt_or_ge i 322 with q | q
  · have := List.all_eq_true.mp lqK_le0 i (List.mem_range.mpr q)
    rw [Bool.and_eq_true] at this
    exact ⟨Nat.le_of_ble_eq_true this.1, Nat.le_of_ble_eq_true this.2⟩
  · have h := lqK_len
    rw [List.getD_eq_getElem?_getD, List.getElem?_eq_none (by omega), List.getD_eq_getElem?_getD, List.getElem?_eq_none (by omega)]
    exact ⟨Nat.le_refl _, Nat.le_refl _⟩
section LQH
variable {D : nhD} {ρ : Nat → Int32} {KL : List Nat} {T : List nkKd} {B q0 q1 : Nat} {H0 H : Heap}
theorem lq_hc (h0 : q0 < B) (h1 : q1 < B) (hlen : KL.length ≤ 322) (hT : T.length = 84) (hall : ∀ {i : Nat}, i < 322 → lq_at KL T i = true) (h : ceH D ρ B H0 cw3 H) : nkHc (D, T, lqGam KL B q0 q1) H := fun a k hk => by
  have hk : T[lqGam KL B q0 q1 a]? = some k := hk
  have hlt : lqGam KL B q0 q1 a < 84 := by
    have := (List.getElem?_eq_some_iff.mp hk).1
    omega
  obtain ⟨i, hi, rfl, e⟩ := lqGam_in hlen hlt
  rw [e] at hk hlt
  have g := hall hi
  unfold lq_at at g
  rw [Bool.or_eq_true] at g
  rcases g with g | g
  · have := Nat.le_of_ble_eq_true g
    omega
  · rw [hk] at g
    split at g
    · rename_i c k' hc hk'
      cases hk'
      exact lq_c_ok h0 h1 g (h.2.2 i c hc)
    · cases g
theorem lq_uq (hlen : KL.length ≤ 322) (hu : lq_uqB KL = true) : nkUq (lqGam KL B q0 q1) := fun a a' e g1 g2 => by
  obtain ⟨i, hi, rfl, ei⟩ := lqGam_in hlen g2
  obtain ⟨j, hj, rfl, ej⟩ := lqGam_in (a := a') hlen (by rw [e]; exact g2)
  rw [ei] at g1 g2 e
  rw [ej] at e
  have f : ∀ k, k < 322 → 40 ≤ KL.getD k 84 → KL.getD k 84 < 84 → KL.findIdx (fun x => Nat.beq x (KL.getD k 84)) = k := fun k hk l1 l2 => by
    have u := List.all_eq_true.mp hu k (List.mem_range.mpr hk)
    rw [Bool.or_eq_true, Bool.or_eq_true] at u
    rcases u with u | u | u
    · have := nk_blt u
      omega
    · have := Nat.le_of_ble_eq_true u
      omega
    · exact Nat.eq_of_beq_eq_true u
  have f1 := f i hi g1 g2
  have f2 := f j hj (by omega) (by omega)
  rw [e] at f2
  omega
theorem lq_pu : nkb0_pu (lqGam lqKm B q0 q1) := fun a => by
  have h : ∀ n, n < 84 → (List.range 322).all (fun i => !(Nat.beq (lqKm.getD i 84) n)) = true → lqGam lqKm B q0 q1 a ≠ n := fun n hn hc e => by
    obtain ⟨i, hi, -, ei⟩ := lqGam_in (a := a) (B := B) (q0 := q0) (q1 := q1) lqK_len.2 (by rw [e]; exact hn)
    have g := List.all_eq_true.mp hc i (List.mem_range.mpr hi)
    rw [← ei, e, Nat.beq_refl] at g
    cases g
  exact ⟨h 41 (by decide) (by decide +kernel), h 45 (by decide) (by decide +kernel), h 47 (by decide) (by decide +kernel)⟩
theorem lq_row (h0 : q0 < B) (h1 : q1 < B) (h : ceH D ρ B H0 cw3 H) {i n a : Nat} (hz : lq_zz i = true) (hn : lqKm.getD i 84 = n) (n1 : 40 ≤ n) (n2 : n < 84) (ha : lqGam lqKm B q0 q1 a = n) {z : Nat → Value} (hzz : H[a]? = some (arrV (D.2.2 0) 2 z)) {b : Nat} (hb : b < 2) : z b = .int (nI 0) := by
  have ea : a = B + i := lq_uq lqK_len.2 lq_uqT.2 (B + i) a (by rw [ha, lqGam_at h0 h1, hn]) (by rw [lqGam_at h0 h1, hn]; exact n1) (by rw [lqGam_at h0 h1, hn]; exact n2)
  subst ea
  unfold lq_zz at hz
  split at hz
  · rename_i c hc
    have e := ce_eqC_ok _ _ hz
    subst e
    have g : H[B + i]? = some (arrV (D.2.2 0) 2 (fun j => ce_c ρ B (([(0, 0), (0, 0)] : List ceV).getD j (3, 0)))) := h.2.2 i _ hc
    rw [hzz] at g
    have g := Option.some.inj g
    have r1 := arrV_read (D.2.2 0) z hb
    rw [g, arrV_read _ _ hb] at r1
    rw [← Option.some.inj r1]
    rcases (show b = 0 ∨ b = 1 by omega) with rfl | rfl <;> exact congrArg Value.int (by decide)
  · cases hz
theorem lq_nkHm (h0 : q0 < B) (h1 : q1 < B) (h : ceH D ρ B H0 cw3 H) : nkH (D, nkKds, lqGam lqKm B q0 q1) H := by
  refine ⟨lq_hc h0 h1 lqK_len.2 rfl lq_allm h, fun _ => ⟨lq_uq lqK_len.2 lq_uqT.2, fun ac af at' e1 e2 e3 zc zf zt g1 g2 g3 b hb => ?_⟩⟩
  have f1 := lq_row h0 h1 h lq_z82.1 lq_z82.2.2.1 (by decide) (by decide) e2 g2 hb
  have f2 := lq_row h0 h1 h lq_z82.2.1 lq_z82.2.2.2 (by decide) (by decide) e3 g3 hb
  exact ⟨⟨0, 0, fun _ => 0, f1, f2, by decide, by decide, rfl, fun k k1 k2 => by omega⟩, ⟨0, 0, f1, f2, by decide, by decide, Or.inl (Nat.le_refl _)⟩⟩
theorem lq_nkHr (h0 : q0 < B) (h1 : q1 < B) (h : ceH D ρ B H0 cw3 H) : nkH (D, nkKdL, lqGam lqKr B q0 q1) H := by
  refine ⟨lq_hc h0 h1 lqK_len.1 rfl lq_allr h, fun _ => ⟨lq_uq lqK_len.1 lq_uqT.1, fun ac af at' e1 => ?_⟩⟩
  have e1 : lqGam lqKr B q0 q1 ac = 80 := e1
  obtain ⟨i, hi, -, ei⟩ := lqGam_in (a := ac) (B := B) (q0 := q0) (q1 := q1) lqK_len.1 (by rw [e1]; decide)
  have g := List.all_eq_true.mp lqKr_80 i (List.mem_range.mpr hi)
  rw [← ei, e1] at g
  cases g
theorem lq_no (h0 : q0 < B) (h1 : q1 < B) (a : Nat) : lqGam lqKr B q0 q1 a < 40 ∨ lqGam lqKr B q0 q1 a = 41 ∨ 84 ≤ lqGam lqKr B q0 q1 a := by
  rcases Nat.lt_or_ge (lqGam lqKr B q0 q1 a) 84 with q | q
  · obtain ⟨i, hi, -, ei⟩ := lqGam_in (a := a) (B := B) (q0 := q0) (q1 := q1) lqK_len.1 q
    have g := List.all_eq_true.mp lqKr_no i (List.mem_range.mpr hi)
    rw [Bool.or_eq_true, Bool.or_eq_true] at g
    rw [ei]
    rcases g with g | g | g
    · exact Or.inl (nk_blt g)
    · exact Or.inr (Or.inl (Nat.eq_of_beq_eq_true g))
    · exact Or.inr (Or.inr (Nat.le_of_ble_eq_true g))
  · exact Or.inr (Or.inr q)
theorem lq_rgr {a : Nat} (h : lqGam lqKr B q0 q1 a < 84) : B ≤ a ∧ a < B + 281 := by
  obtain ⟨i, hi, rfl, ei⟩ := lqGam_in lqK_len.1 h
  have g := List.all_eq_true.mp lqKr_rg i (List.mem_range.mpr hi)
  rw [Bool.or_eq_true] at g
  rw [ei] at h
  rcases g with g | g
  · have := nk_blt g
    omega
  · have := Nat.le_of_ble_eq_true g
    omega
theorem lq_rgm {a : Nat} (h : lqGam lqKm B q0 q1 a < 84) : B + 281 ≤ a := by
  obtain ⟨i, hi, rfl, ei⟩ := lqGam_in lqK_len.2 h
  have g := List.all_eq_true.mp lqKm_rg i (List.mem_range.mpr hi)
  rw [Bool.or_eq_true] at g
  rw [ei] at h
  rcases g with g | g
  · have := Nat.le_of_ble_eq_true g
    omega
  · have := Nat.le_of_ble_eq_true g
    omega
def lq_fB (KL : List Nat) (T : List nkKd) (i f : Nat) (v : ceV) : Bool := match ce_get cw3 i, T[KL.getD i 84]? with
  | some c, some k => Nat.beq c.1 0 && (Nat.beq k.1 0 && (Nat.beq k.2.1 c.2.1 && (Nat.blt f k.2.2.1 && (Nat.blt f c.2.2.length && ce_eqV (c.2.2.getD f (3, 0)) v))))
  | _, _ => false
theorem lq_fd (h0 : q0 < B) (h1 : q1 < B) (h : ceH D ρ B H0 cw3 H) {i f : Nat} {v : ceV} (hB : lq_fB KL T i f v = true) : nkFd (D, T, lqGam KL B q0 q1) H (B + i) f (ce_c ρ B v) := by
  unfold lq_fB at hB
  split at hB
  · rename_i c k hc hk
    obtain ⟨k1, k2, k3, k4, k5⟩ := k
    obtain ⟨c1, c2, c3⟩ := c
    simp only [Bool.and_eq_true] at hB
    obtain ⟨a1, a2, a3, a4, a5, a6⟩ := hB
    have a1 := Nat.eq_of_beq_eq_true a1
    have a2 := Nat.eq_of_beq_eq_true a2
    have a3 := Nat.eq_of_beq_eq_true a3
    have a4 := nk_blt a4
    have a5 := nk_blt a5
    have a6 := ce_eqV_ok _ _ a6
    subst a1 a2 a3
    obtain ⟨cell, q1', q2', q3', q4'⟩ := h.2.2 i _ hc
    have q5 : cell.slots[D.2.1 k2 f]? = some (ce_c ρ B (c3.getD f (3, 0))) := q4' f a5
    rw [a6] at q5
    exact ⟨(0, k2, k3, k4, k5), cell, by show T[lqGam KL B q0 q1 (B + i)]? = _; rw [lqGam_at h0 h1]; exact hk, a4, q1', q5⟩
  · cases hB
set_option maxRecDepth 1000000 in
theorem lq_f0 : lq_fB lqKr nkKdL 0 7 (2, 31) = true ∧ lq_fB lqKr nkKdL 31 2 (0, 0) = true ∧ lq_fB lqKr nkKdL 31 3 (0, 0) = true ∧ lq_fB lqKm nkKds 281 44 (0, 0) = true ∧ lq_fB lqKm nkKds 281 45 (0, 0) = true ∧ lq_fB lqKr nkKdL 0 14 (0, 0) = true ∧ lq_fB lqKm nkKds 281 61 (0, 0) = true := by decide +kernel
theorem lq_k0 : lqKr.getD 0 84 = 10 ∧ lqKr.getD 31 84 = 2 ∧ lqKm.getD 281 84 = 40 := by decide +kernel
theorem lq_Z {s : State} {adK adV : Nat → Nat} (h1 : vk_S 2 nkLen nkByt adK adV (fun q => s.heap.size ≤ q) s s.heap) (h2 : vk_R "NightHouses$Tokens" 72 nkTx0 (adK 0) s ∧ vk_R "NightHouses$Tokens" 56 nkTx1 (adK 1) s) (h3 : va_Z "java/lang/String" "COMPACT_STRINGS" "Z" (.int 1) (fun q => s.heap.size ≤ q) s s.heap) (h4 : va_Zq "jdk/internal/util/Preconditions" "SIOOBE_FORMATTER" "Ljava/util/function/BiFunction;" (fun q => s.heap.size ≤ q) s s.heap) (hT : T.length = 84) (hle : ∀ i, KL.getD i 84 ≤ 84) : nkZ (D, T, lqGam KL s.heap.size (adK 0) (adK 1)) s := by
  have k01 : adK 1 ≠ adK 0 := fun q => by
    have := h1.2 1 0 (by decide) (by decide) q
    omega
  have hAB : ∀ q : Nat, nkA (D, T, lqGam KL s.heap.size (adK 0) (adK 1)) q → s.heap.size ≤ q := fun q hq => by
    rcases Nat.lt_or_ge q s.heap.size with z | z
    · have h5 := lqGam_lo (KL := KL) (B := s.heap.size) (q0 := adK 0) (q1 := adK 1) z
      have hq : lqGam KL s.heap.size (adK 0) (adK 1) q < T.length := hq
      omega
    · exact z
  refine ⟨adK, adV, h1.narrow hAB, h2, fun i hi => ?_, fun a i hi ha => ?_, h3.narrow hAB, h4.narrow hAB⟩
  · show lqGam KL s.heap.size (adK 0) (adK 1) (adK i) = T.length + 1 + i
    rw [hT]
    rcases (show i = 0 ∨ i = 1 by omega) with rfl | rfl
    · unfold lqGam
      rw [if_pos rfl]
    · unfold lqGam
      rw [if_neg k01, if_pos rfl]
  · have ha : lqGam KL s.heap.size (adK 0) (adK 1) a = T.length + 1 + i := ha
    rw [hT] at ha
    unfold lqGam at ha
    split at ha
    · rename_i e0
      have : i = 0 := by omega
      subst this
      exact e0
    · split at ha
      · rename_i e1
        have : i = 1 := by omega
        subst this
        exact e1
      · split at ha
        · omega
        · have := hle (a - s.heap.size)
          omega
end LQH
/-! the texts at the law's entry -/
abbrev lqF : List Cond := flatC (Jvm.Cond.and given_1 narrow_1)
def lq_tm (i : Nat) : Term := .string "NightHouses$Tokens" (if i = 0 then 72 else 56)
abbrev lq_vl (i : Nat) : Term := .field (lq_tm i) "java/lang/String" "value" "[B"
set_option maxRecDepth 1000000 in
theorem lq_e0 : (List.range 92).map (fun j => Cond.eq (.elem (lq_vl 0) (.int (Int32.ofNat j))) (.int ((nkByt.getD 0 []).getD j 0))) = (lqF.drop 13).take 92 := by decide +kernel
set_option maxRecDepth 1000000 in
theorem lq_e1 : (List.range 11).map (fun j => Cond.eq (.elem (lq_vl 1) (.int (Int32.ofNat j))) (.int ((nkByt.getD 1 []).getD j 0))) = (lqF.drop 109).take 11 := by decide +kernel
set_option maxRecDepth 1000000 in
theorem lq_w0 : lqF[4]? = some (Cond.eq (.static "java/lang/String" "COMPACT_STRINGS" "Z") (.int 1)) ∧ lqF[5]? = some (Cond.isRef (.static "jdk/internal/util/Preconditions" "SIOOBE_FORMATTER" "Ljava/util/function/BiFunction;")) ∧ lqF[9]? = some (Cond.exactly (lq_tm 0) "java/lang/String") ∧ lqF[10]? = some (Cond.eq (.field (lq_tm 0) "java/lang/String" "coder" "B") (.int 0)) ∧ lqF[11]? = some (Cond.arrayOf (lq_vl 0) .byte) ∧ lqF[12]? = some (Cond.eq (.length (lq_vl 0)) (.int (Int32.ofNat (nkLen.getD 0 0)))) ∧ lqF[105]? = some (Cond.exactly (lq_tm 1) "java/lang/String") ∧ lqF[106]? = some (Cond.eq (.field (lq_tm 1) "java/lang/String" "coder" "B") (.int 0)) ∧ lqF[107]? = some (Cond.arrayOf (lq_vl 1) .byte) ∧ lqF[108]? = some (Cond.eq (.length (lq_vl 1)) (.int (Int32.ofNat (nkLen.getD 1 0)))) ∧ lqF[120]? = some (Cond.not (Cond.eq (lq_tm 0) (lq_tm 1))) := by decide +kernel
theorem lq_r0 : Cond.stringRef "NightHouses$Tokens" 72 nkTx0 ∈ lw_tbl := List.mem_of_getElem? (i := 681) (by decide +kernel)
theorem lq_r1 : Cond.stringRef "NightHouses$Tokens" 56 nkTx1 ∈ lw_tbl := List.mem_of_getElem? (i := 737) (by decide +kernel)
theorem lq_r2 : Cond.laysStatic "java/lang/String" "COMPACT_STRINGS" "Z" ∈ lw_tbl := List.mem_of_getElem? (i := 691) (by decide +kernel)
theorem lq_r3 : Cond.laysStatic "jdk/internal/util/Preconditions" "SIOOBE_FORMATTER" "Ljava/util/function/BiFunction;" ∈ lw_tbl := List.mem_of_getElem? (i := 707) (by decide +kernel)
theorem lq_r4 : Cond.initialized "java/lang/String" ∈ lw_tbl := List.mem_of_getElem? (i := 133) (by decide +kernel)
theorem lq_r5 : Cond.initialized "jdk/internal/util/Preconditions" ∈ lw_tbl := List.mem_of_getElem? (i := 135) (by decide +kernel)
theorem lq_texts {args : Array Value} {s : State} (hts : ∀ w ∈ lw_tbl, w.before args s = true) (hg : (Jvm.Cond.and given_1 narrow_1).before args s = true) : ∃ adK adV : Nat → Nat, vk_S 2 nkLen nkByt adK adV (fun q => s.heap.size ≤ q) s s.heap ∧ (vk_R "NightHouses$Tokens" 72 nkTx0 (adK 0) s ∧ vk_R "NightHouses$Tokens" 56 nkTx1 (adK 1) s) ∧ va_Z "java/lang/String" "COMPACT_STRINGS" "Z" (.int 1) (fun q => s.heap.size ≤ q) s s.heap ∧ va_Zq "jdk/internal/util/Preconditions" "SIOOBE_FORMATTER" "Ljava/util/function/BiFunction;" (fun q => s.heap.size ≤ q) s s.heap := by
  have hs := flat_of_before _ hg
  have hA : ∀ a : Nat, a < s.heap.size → ¬ s.heap.size ≤ a := fun a h => Nat.not_le.mpr h
  have w : ∀ {n : Nat} {c : Cond}, lqF[n]? = some c → c.before args s = true := fun h => hs _ (List.mem_of_getElem? h)
  obtain ⟨w4, w5, w9, w10, w11, w12, v9, v10, v11, v12, w13⟩ := lq_w0
  have two : ∀ {P : Nat → Prop}, P 0 → P 1 → ∀ i, i < 2 → P i := fun p0 p1 i hi => by
    rcases (show i = 0 ∨ i = 1 by omega) with rfl | rfl
    · exact p0
    · exact p1
  obtain ⟨adK, adV, h1, h2⟩ := vk_Sof (args := args) (s := s) (N := 2) (tm := lq_tm) (len := nkLen) (byt := nkByt) (A := fun q => s.heap.size ≤ q) (fun i hi => ns_len hi) (two (P := fun i => (Cond.exactly (lq_tm i) "java/lang/String").before args s = true) (w w9) (w v9)) (two (P := fun i => (Cond.eq (.field (lq_tm i) "java/lang/String" "coder" "B") (.int 0)).before args s = true) (w w10) (w v10)) (two (P := fun i => (Cond.arrayOf (lq_vl i) .byte).before args s = true) (w w11) (w v11)) (two (P := fun i => (Cond.eq (.length (lq_vl i)) (.int (Int32.ofNat (nkLen.getD i 0)))).before args s = true) (w w12) (w v12)) (two (P := fun i => ∀ j : Nat, j < nkLen.getD i 0 → (Cond.eq (.elem (lq_vl i) (.int (Int32.ofNat j))) (.int ((nkByt.getD i []).getD j 0))).before args s = true) (fun j hj => hs _ (va_run lq_e0 j hj)) (fun j hj => hs _ (va_run lq_e1 j hj))) (fun i j hi hj hij => by
    rcases (show i = 0 ∨ i = 1 by omega) with rfl | rfl <;> rcases (show j = 0 ∨ j = 1 by omega) with rfl | rfl
    · exact absurd rfl hij
    · exact Or.inl (w w13)
    · exact Or.inr (w w13)
    · exact absurd rfl hij) hA
  refine ⟨adK, adV, h1, ⟨vk_R.of (hts _ lq_r0) (h2 0 (by decide)), vk_R.of (hts _ lq_r1) (h2 1 (by decide))⟩, va_Zof (hts _ lq_r2) (hts _ lq_r4) (va_eqt (w w4)) hA, va_Zqof (hts _ lq_r3) (hts _ lq_r5) (w w5) hA⟩
