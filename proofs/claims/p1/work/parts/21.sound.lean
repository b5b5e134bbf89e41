/-- values as a list of abstract ones says -/
def nhFor (Γ : Nat → Int) (g : Nat → Int32) : List nhV → List Value → Prop
  | [], [] => True
  | v :: vs, x :: xs => nhOk Γ g v x ∧ nhFor Γ g vs xs
  | _, _ => False
theorem nhFor_of {Γ : Nat → Int} {g : Nat → Int32} : ∀ {vs : List nhV} {ρ : List Value}, nhAll Γ g vs ρ → nhFor Γ g vs ρ
  | [], [], _ => trivial
  | [], _ :: _, h => by have := h.1; simp at this
  | _ :: _, [], h => by have := h.1; simp at this
  | v :: vs, x :: xs, h => by
    obtain ⟨y, h1, h2⟩ := h.2 0 v rfl
    cases h1
    refine ⟨h2, nhFor_of ⟨by have := h.1; simpa using this, fun i w hi => ?_⟩⟩
    obtain ⟨y, h3, h4⟩ := h.2 (i + 1) w (by simpa using hi)
    exact ⟨y, by simpa using h3, h4⟩
theorem nhFor.take {Γ : Nat → Int} {g : Nat → Int32} : ∀ (n : Nat) {vs : List nhV} {ρ : List Value}, nhFor Γ g vs ρ → nhFor Γ g (vs.take n) (ρ.take n)
  | 0, _, _, _ => trivial
  | n + 1, [], [], _ => trivial
  | n + 1, _ :: _, _ :: _, h => ⟨h.1, nhFor.take n h.2⟩
  | n + 1, [], _ :: _, h => h.elim
  | n + 1, _ :: _, [], h => h.elim
theorem nh_cat2 {Γ : Nat → Int} {g : Nat → Int32} {v : nhV} {x : Value} (h : nhOk Γ g v x) (hc : nh_cat v < 3) : x.category = (if v.1 = 1 then 2 else 1) := by
  have h1 := nh_cat_ok h
  obtain ⟨t, a, b⟩ := v
  unfold nh_cat at hc h1
  dsimp only at hc h1 ⊢
  split at hc
  · obtain ⟨z, rfl⟩ := h1.1 rfl
    rfl
  · obtain ⟨z, rfl⟩ := h1.1 rfl
    rfl
  · obtain ⟨z, rfl⟩ := h1.2.1 rfl
    rfl
  · rcases h1.2.2 rfl with rfl | ⟨z, rfl⟩ <;> rfl
  · rcases h1.2.2 rfl with rfl | ⟨z, rfl⟩ <;> rfl
  · omega
theorem nh_wid_ok {Γ : Nat → Int} {g : Nat → Int32} : ∀ {vs : List nhV} {xs : List Value}, nhFor Γ g vs xs → vs.all (fun v => decide (nh_cat v < 3)) = true → (lg_sl xs).length = nh_wid vs
  | [], [], _, _ => rfl
  | [], _ :: _, h, _ => h.elim
  | _ :: _, [], h, _ => h.elim
  | v :: vs, x :: xs, h, hc => by
    simp only [List.all_cons, Bool.and_eq_true, decide_eq_true_eq] at hc
    have h1 := nh_cat2 h.1 hc.1
    have ih := nh_wid_ok h.2 hc.2
    simp only [lg_sl, List.flatMap_cons, List.length_append, nh_wid] at ih ⊢
    rw [ih]
    split at h1
    · rename_i e
      rw [if_pos h1, if_pos e]
      rfl
    · rename_i e
      rw [if_neg (by omega), if_neg e]
      rfl
theorem nh_lo0_ok {Γ : Nat → Int} {g : Nat → Int32} {ρ : List Value} : ∀ {vs : List nhV} {xs : List Value} {n j : Nat}, nhFor Γ g vs xs → vs.all (fun v => decide (nh_cat v < 3)) = true → (∀ (i : Nat) (x : Value), xs[i]? = some x → ρ[j + i]? = some x) → ∀ q ∈ nh_lo0 n j vs, ∃ x, ρ[q.2]? = some x ∧ (q.1, x) ∈ lv_args n xs
  | [], _, _, _, _, _, _, q, hq => by cases hq
  | _ :: _, [], _, _, h, _, _, _, _ => h.elim
  | v :: vs, x :: xs, n, j, h, hc, hx, q, hq => by
    simp only [List.all_cons, Bool.and_eq_true, decide_eq_true_eq] at hc
    have h1 := nh_cat2 h.1 hc.1
    unfold nh_lo0 at hq
    unfold lv_args
    rcases List.mem_cons.mp hq with rfl | hq
    · exact ⟨x, by simpa using hx 0 x rfl, List.mem_cons_self⟩
    · have e : (if x.category = 2 then n + 2 else n + 1) = n + (if v.1 = 1 then 2 else 1) := by
        split at h1
        · rename_i e
          rw [if_pos h1, if_pos e]
        · rename_i e
          rw [if_neg (by omega), if_neg e]
      rw [e]
      obtain ⟨y, h2, h3⟩ := nh_lo0_ok h.2 hc.2 (fun i z hz => by
        have := hx (i + 1) z (by simpa using hz)
        rw [show j + 1 + i = j + (i + 1) by omega]
        exact this) q hq
      exact ⟨y, h2, List.mem_cons_of_mem _ h3⟩
/-- THE CHECK SAYS TRUE: the contract is met -/
theorem nh_sound {G : nhG} {y : nhMth} {mn : Nat} {en : nhIn} {ces : List nhCe} {fuel : Nat} (hmt : nhMt[mn]? = some y) (hC : nhOw[G.2.2.1]? = some y.1.cls) (hnL : y.2.2.1 = G.2.2.2.1) (hfr : en.2.2.1 = G.2.2.2.2.2.1) (hlo : en.2.2.2 = G.2.2.2.2.2.2.1) (hcal : ∀ (j : Nat) (en : nhIn) (y : nhMth), (∃ pc, (pc, j) ∈ G.2.2.2.2.1) → G.2.1[j]? = some en → nhMt[en.1]? = some y → nhMet G.1 y en)
    {dt : nhDt} (hdt : nh_dtB y.2.1 dt = true) (h : nh_chk G dt y.2.2.2.1 en.2.1 ces fuel = true) : nhMet G.1 y en := by
  intro l D Γ g ρ
  obtain ⟨m1, m2, m3, m4, m5, m6⟩ := nh_mt_ok hmt
  refine Met.ofW (cc := y.2.1) (maxL := y.2.2.1) (ret := y.2.2.2.1) m6 rfl ?_
  intro p e s m args below meth c s₁ B hml hv
  obtain ⟨rfl, hA, hM, hH, hK⟩ := hv
  have hts := atoms_spec (ws := nhWs y) B.pre
  have hts' : ∀ w ∈ nhTb, w.before (ρ.take en.2.1.1).toArray s = true := fun w hw => hts w (List.mem_cons_of_mem _ hw)
  unfold nh_chk at h
  simp only [Bool.and_eq_true, decide_eq_true_eq] at h
  obtain ⟨⟨⟨⟨⟨⟨⟨k1, k2⟩, k3⟩, k4⟩, k5⟩, k6⟩, k7⟩, k8⟩ := h
  have hlp : ρ.length = en.2.1.2.1.length := hA.1
  have hF : nhFx p c s m (ρ.take en.2.1.1).toArray y.2.1 G.2.2.2.1 G.2.2.1 D := ⟨B.exec, B.bytes, by rw [hml, hnL], ⟨_, hC, findClass_of_methodNamed B.named⟩, hts', hK⟩
  have hh : nhHy p (headSpec (nhWs y) (nhRm en)).room s m (ρ.take en.2.1.1).toArray c y.2.1 (D, G.1, Γ, g) G := ⟨rfl, hF, hfr, hlo, hcal⟩
  have hl : ∀ q ∈ en.2.1.2.2.2.2.1, q.2.1 < ρ.length := fun q hq => by rw [hlp]; exact of_decide_eq_true (List.all_eq_true.mp k1 q hq)
  have hl2 : ∀ q ∈ en.2.1.2.2.2.2.2.1, q.2.2.1 < ρ.length := fun q hq => by rw [hlp]; exact of_decide_eq_true (List.all_eq_true.mp k2 q hq)
  -- all certificates, by what is left to do
  have hP : ∀ (n : Nat), ∀ ce ∈ ces, ∀ (ρ1 : List Value) (H : Heap) (locs : List Loc) (ls : Array Slot) (st : List Value), nhX ρ ρ1 → nhR (D, G.1, Γ, g) G.2.2.2.1 G.2.2.2.2.2.2.2 s.heap (nh_ceS ce) ρ1 H locs ls st → nh_num ρ1 ce.2.2.2.2.2.2 < n → W p l e (headSpec (nhWs y) (nhRm en)).room s m (ρ.take en.2.1.1).toArray below meth c H locs 0 0 (MQ below (nhQc (D, G.1, Γ, g) en.2.1 ρ) (ρ.take en.2.1.1).toArray s 0 0 (fun a => 0 ≤ Γ a)) (F0 m ce.1 ls st) := by
    intro n
    induction n with
    | zero => intro ce _ ρ1 H locs ls st _ _ h; exact absurd h (Nat.not_lt_zero _)
    | succ n ih =>
      intro ce hce ρ1 H locs ls st hX hR hn
      have h1 := List.all_eq_true.mp k8 ce hce
      rw [Bool.and_eq_true] at h1
      refine nh_run_ok (ρp := ρ) (ρ0 := ρ1) hh (fun _ _ hq => nh_dk_ok hdt hq) B.returns B.notSynchronized k3 hl hl2 hlp hX (fun ce' hce' ρ2 H2 locs2 ls2 st2 hX2 hR2 hm => ?_) (fun ms hms ρ2 hX2 => ?_) fuel _ _ h1.2 ρ1 H locs ls st (nhX.rf _) hR
      · refine ih ce' hce' ρ2 H2 locs2 ls2 st2 hX2 hR2 ?_
        have := hm _ rfl
        omega
      · cases hms
        have hlen : ρ1.length = ce.2.1.length := hR.1.1
        have hv := h1.1
        unfold nh_vrs at hv
        have key : ∀ ms : nhMs, ms.all (fun q => q.1 == 0 || decide (q.2.1 < ce.2.1.length)) = true → nh_num ρ2 ms = nh_num ρ1 ms := by
          intro ms
          induction ms with
          | nil => intro _; rfl
          | cons q r ihr =>
            intro hq
            simp only [List.all_cons, Bool.and_eq_true, Bool.or_eq_true, beq_iff_eq, decide_eq_true_eq] at hq
            have e1 : nh_mv ρ2 q = nh_mv ρ1 q := by
              obtain ⟨t, v, b⟩ := q
              dsimp only at hq
              rcases hq.1 with rfl | hlt
              · rfl
              · have hg := List.getElem?_eq_getElem (l := ρ1) (i := v) (by omega)
                have hg2 := hX2 _ _ hg
                unfold nh_mv
                dsimp only
                rw [hg, hg2]
            simp only [nh_num]
            rw [e1, ihr (by simpa using hq.2)]
        exact key _ hv
  have hFor := (nhFor_of hA).take en.2.1.1
  have hw := nh_wid_ok hFor k4
  have hlv := lv_entry (ρ.take en.2.1.1) (n := y.2.2.1) (by rw [hw, hnL]; exact k6)
  rw [lg_entry_eq]
  generalize (lg_sl (ρ.take en.2.1.1) ++ List.replicate (y.2.2.1 - (lg_sl (ρ.take en.2.1.1)).length) Slot.unset).toArray = ls at hlv ⊢
  have hR : nhR (D, G.1, Γ, g) G.2.2.2.1 G.2.2.2.2.2.2.2 s.heap (en.2.1.2.1, nh_lo0 0 0 (en.2.1.2.1.take en.2.1.1), [], en.2.1.2.2.1, [], []) ρ s.heap [] ls [] := by
    refine ⟨hA, ⟨hlv.1.trans hnL, hlv.2.1, fun q hq => ?_⟩, trivial, hM, (fun q hq => by cases hq), (fun q hq => by cases hq), hH, rfl, fun _ _ => rfl, (fun q hq => by cases hq), fun _ => rfl⟩
    obtain ⟨x, h1, h2⟩ := nh_lo0_ok (ρ := ρ) (n := 0) (j := 0) hFor k4 (fun i x hi => by
      rw [List.getElem?_take] at hi
      split at hi
      · rw [Nat.zero_add]; exact hi
      · cases hi) q hq
    exact ⟨x, h1, hlv.2.2 _ h2⟩
  unfold nh_go at k7
  split at k7
  · obtain ⟨ce, hce, h2⟩ := List.any_eq_true.mp k7
    rw [Bool.and_eq_true, beq_iff_eq] at h2
    obtain ⟨h2, h3⟩ := h2
    unfold nh_ced at h3
    split at h3
    · rename_i σ hσ
      obtain ⟨e1, e2, e3⟩ := nh_ent_ok hσ hR
      have hf := hP _ ce hce _ s.heap [] ls [] (fun i x hi => by
        have hlt := (List.getElem?_eq_some_iff.mp hi).1
        rw [e2 i (by omega)]
        exact hi) e1 (Nat.lt_succ_self _)
      rw [h2] at hf
      exact hf
    · cases h3
  · exact nh_run_ok (ρp := ρ) (ρ0 := ρ) hh (fun _ _ hq => nh_dk_ok hdt hq) B.returns B.notSynchronized k3 hl hl2 hlp (nhX.rf _) (fun ce hce ρ1 H locs ls st hX hR _ => hP _ ce hce ρ1 H locs ls st hX hR (Nat.lt_succ_self _)) (fun ms hms => by cases hms) fuel _ _ k7 ρ s.heap [] ls [] (nhX.rf _) hR
