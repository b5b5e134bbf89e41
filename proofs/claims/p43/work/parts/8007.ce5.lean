section CE5
variable {p : Program} {l : Launch} {e : Env} {R : Room} {s : State} {m : MethodId} {args : Array Value} {below : List Frame} {meth : Method} {c : Code} {Q : State → Prop} {cc : ByteArray} {pc own : Nat} {D : nhD} {ρ : Nat → Int32} {B : Nat} {H0 : Heap} {nL cn cz : Nat} {lo : List (Nat × ceV)} {st : List ceV} {hp : ceHp}
theorem ce_newA (hF : nhFx p c s m args cc nL own D) (hok : ce_ok hp = true) {t : ArrayType} {ti : Nat} {d : ceV} (hty : nhTy[ti]? = some (newarray.typeOf t)) (hw : Cond.arrayClass (newarray.typeOf t) ∈ nhTb) (hnr : ∀ C, newarray.typeOf t ≠ .object C) (hdv : defaultValue (newarray.typeOf t) = ce_c ρ B d) (hcb : componentBytes (newarray.typeOf t) ≤ 8) {x : Int} {r : List ceV} (h1 : 0 ≤ (Int32.ofInt x).toInt) (h2 : (Int32.ofInt x).toInt ≤ 60000000) (hd : decode cc pc = .ok (.newarray t, 2)) (hcells : cn + 1 ≤ R.cells) (hslots : cz + (Int32.ofInt x).toInt.toNat ≤ R.slots)
    (k : ceGo p l e R s m args below meth c Q D ρ B H0 nL (cn + 1) (cz + (Int32.ofInt x).toInt.toNat) (pc + 2, lo, (2, (ce_len hp : Int)) :: r, ce_push hp (1, ti, List.replicate (Int32.ofInt x).toInt.toNat d))) : ceGo p l e R s m args below meth c Q D ρ B H0 nL cn cz (pc, lo, (0, x) :: r, hp) := by
  intro H locs ls hR
  obtain ⟨hx, hb, hml, ⟨C, hC, hown⟩, hts, hK⟩ := hF
  have hneg : ¬ (Int32.ofInt x) < 0 := fun q => by have := Int32.lt_iff_toInt_lt.mp q; rw [show (0 : Int32).toInt = 0 from rfl] at this; omega
  obtain ⟨j, hj, ej, ejj⟩ := nh_nI h1
  have hcl : (Int32.ofInt x).toNatClampNeg = (Int32.ofInt x).toInt.toNat := by
    rw [ejj, ej, nI_clamp hj]; omega
  have hbytes : (Int32.ofInt x).toInt.toNat * componentBytes (newarray.typeOf t) ≤ 536870912 := by
    have : (Int32.ofInt x).toInt.toNat * componentBytes (newarray.typeOf t) ≤ 60000000 * 8 := Nat.mul_le_mul (by omega) hcb
    omega
  have hcn := hcells
  refine va_newaK hx hb (hts _ hw) rfl hd rfl hneg hcl hbytes hcn hslots (h := B + ce_len hp) hR.2.2.2.1.1 fun H' cA e1 e2 e3 hA hN => ?_
  have hra := (hK.2 ti _ hty).2
  have ecA : cA = D.2.2 ti := by
    unfold va_RA at hra
    split at hra
    · rename_i C' e4
      exact absurd e4 (hnr C')
    · exact Option.some.inj (hN.symm.trans hra)
  subst ecA
  have k1 := k H' locs ls ⟨hR.1, hR.2.1, hR.2.2.1, hR.2.2.2.1.push hok ?_ (by rw [e2, hR.2.2.2.1.1]) (fun q hq => e3 q (by rw [← hR.2.2.2.1.1]; exact hq)), hR.2.2.2.2⟩
  · exact k1
  · show H'[B + ce_len hp]? = some (arrV _ _ _)
    rw [e1, hdv, List.length_replicate]
    congr 1
    unfold arrV
    congr 1
    congr 1
    funext i
    show ce_c ρ B d = ce_c ρ B ((List.replicate (Int32.ofInt x).toInt.toNat d).getD i.val (3, 0))
    rw [List.getD_eq_getElem?_getD, List.getElem?_replicate, if_pos i.isLt]
    rfl
theorem ce_new_ok (hF : nhFx p c s m args cc nL own D) (hAO : va_AO "NightHouses$Night" s) {i : Instr} {len : Nat} (hd : decode cc pc = .ok (i, len)) {S' : ceS} {n : Nat} (h : ce_new own pc i len lo st hp = some (S', n)) (hcells : cn + 1 ≤ R.cells) (hslots : cz + n ≤ R.slots)
    (k : ceGo p l e R s m args below meth c Q D ρ B H0 nL (cn + 1) (cz + n) S') : ceGo p l e R s m args below meth c Q D ρ B H0 nL cn cz (pc, lo, st, hp) := by
  have hF' := hF
  obtain ⟨hx, hb, hml, ⟨C, hC, hown⟩, hts, hK⟩ := hF
  unfold ce_new at h
  split at h
  · split at h
    · rename_i q hq
      obtain ⟨r0, g1, g2, g3, g4⟩ := ce_nlk hC hq
      split at h
      · rename_i r hr
        rw [g1] at hr
        cases hr
        split at h
        · rename_i hl
          obtain ⟨hok, rfl, hl⟩ := hl
          cases h
          intro H locs ls hR
          refine W.newcK hx hb hown (hts _ g2) (hts _ g3) (hts _ g4) rfl hd hcells hslots (hK.1 _ _ g1).2.1 (h := B + ce_len hp) hR.2.2.2.1.1 fun H' kC hkC e1 e2 e3 => ?_
          obtain ⟨hin, hty, hnm⟩ := nhCl_in g1
          have hO := u_born (nhFt q.2.1) hts hin (hK.1 _ _ g1) hkC e1 hty
          refine k H' locs ls ⟨hR.1, hR.2.1, hR.2.2.1, hR.2.2.2.1.push hok ?_ (by rw [e2, hR.2.2.2.1.1]) (fun w hw => e3 w (by rw [← hR.2.2.2.1.1]; exact hw)), hR.2.2.2.2⟩
          unfold ceCell
          dsimp only
          rw [List.length_map, List.length_range]
          refine hO.to (fun j hj => ?_)
          rw [ce_defV ρ B _ (List.all_eq_true.mp hl j (List.mem_range.mpr hj)), List.getD_eq_getElem?_getD, List.getElem?_map, List.getElem?_range hj]
          rfl
        · cases h
      · cases h
    · cases h
  · rename_i t
    split at h
    · rename_i x r q hq
      split at h
      · rename_i hl
        obtain ⟨hok, rfl, h1, h2⟩ := hl
        cases h
        unfold ce_atI at hq
        split at hq
        · cases hq; exact ce_newA (t := .int) hF' hok rfl ceAr_int (fun C e => by cases e) rfl (by decide) h1 h2 hd hcells hslots k
        · cases hq; exact ce_newA (t := .byte) hF' hok rfl ceAr_byte (fun C e => by cases e) rfl (by decide) h1 h2 hd hcells hslots k
        · cases hq; exact ce_newA (t := .long) hF' hok rfl ceAr_long (fun C e => by cases e) rfl (by decide) h1 h2 hd hcells hslots k
        · cases hq; exact ce_newA (t := .boolean) hF' hok rfl ceAr_boolean (fun C e => by cases e) rfl (by decide) h1 h2 hd hcells hslots k
        · cases hq
      · cases h
    · cases h
  · split at h
    · rename_i x r q hq
      obtain ⟨r0, g1, g2, g3, g4⟩ := ce_nlk hC hq
      split at h
      · rename_i hl
        obtain ⟨hok, rfl, h0, h1, h2⟩ := hl
        cases h
        rw [h0] at g1
        cases g1
        intro H locs ls hR
        have hneg : ¬ (Int32.ofInt x) < 0 := fun q => by have := Int32.lt_iff_toInt_lt.mp q; rw [show (0 : Int32).toInt = 0 from rfl] at this; omega
        obtain ⟨j, hj, ej, ejj⟩ := nh_nI h1
        have hcl : (Int32.ofInt x).toNatClampNeg = (Int32.ofInt x).toInt.toNat := by
          rw [ejj, ej, nI_clamp hj]; omega
        refine W.anew hx hb hown (hts _ g2) (va_AO.use hAO) rfl hd rfl hneg (by rw [hcl]; omega) hcells (by rw [hcl]; exact hslots) fun cA kA comp f1 f2 f3 f4 => ?_
        obtain ⟨kA', comp', z1, z2, z3, z4⟩ := (hK.2 4 _ rfl).2
        have ecA : cA = D.2.2 4 := Option.some.inj (f1.symm.trans z4)
        subst ecA
        rw [hcl]
        have hsz := hR.2.2.2.1.1
        have k1 := k (H.push ({ cls := D.2.2 4, slots := Array.replicate (Int32.ofInt x).toInt.toNat .null, vm := .none } : Cell)) locs ls ⟨hR.1, hR.2.1, hR.2.2.1, hR.2.2.2.1.push hok ?_ (by simp) (fun w hw => by rw [Array.getElem?_push, if_neg (by omega)]), hR.2.2.2.2⟩
        · rw [hsz]
          exact k1
        · show (H.push _)[B + ce_len hp]? = some (arrV _ _ _)
          rw [← hsz, Array.getElem?_push_size, arrV_new, List.length_replicate]
          congr 1
          unfold arrV
          congr 1
          congr 1
          funext i
          show Value.null = ce_c ρ B ((List.replicate (Int32.ofInt x).toInt.toNat (3, 0)).getD i.val (3, 0))
          rw [List.getD_eq_getElem?_getD, List.getElem?_replicate, if_pos i.isLt]
          rfl
      · cases h
    · cases h
  · cases h
end CE5
