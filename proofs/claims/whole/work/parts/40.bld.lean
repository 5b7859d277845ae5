/-! WriterDesk$Builder: findHead, findHeads -/
set_option maxRecDepth 100000 in
set_option maxHeartbeats 4000000 in
/-- findHead(machine, q) -/
theorem c_Bld_findHead {w : rz_w} {d : Nat} {G : rz_G} {a : Nat} {I : Nat → Int32} {A : Nat → Nat → Int32} {J : Nat → Nat → Int64} {X : Nat → List Nat} {P : Nat → Nat} {Im : Nat → Int32} {Am : Nat → Nat → Int32} {Jm : Nat → Nat → Int64} {Xm : Nat → List Nat} {Pm : Nat → Nat} {M1 : mc_S} {m : mv_T} {cl am q : Nat} {S : bh_T} (h1 : mc_at' G am a 588 M1 m cl) (h3 : mv_w3 m) (hq : q < 6) (hS : bh_st I X S) (hb : ∀ q, q < 6 → S.1.testBit q = true → (S.2 q).length ≤ 45) :
    rz_C w (d + 1) 0 0 y_Bld_findHead m_Bld_findHead [.ref a, .ref am, .int (nI q)] (mc_put (bo_put G a I A J X P) (a + 1) Im Am Jm Xm Pm) (fun r G' => r = some (.int (rz_b (bh_1 m cl S q).2)) ∧ ∃ I' X', G' = (mc_put (bo_put G a I' A J X' P) (a + 1) Im Am Jm Xm Pm) ∧ bh_st I' X' (bh_1 m cl S q).1 ∧ I' 1 = I 1 ∧ X' 2 = X 2 ∧ ∀ j, 9 ≤ j → X' j = X j) := by
  obtain ⟨-, hm1, hs1, ha1⟩ := id h1
  unfold mc_ap at ha1
  obtain ⟨s0, s1, s2, hX⟩ := id hS
  have hal := mv_al64 hm1
  have hmc : ∀ X, mc_is (mc_put (bo_put G a I A J X P) (a + 1) Im Am Jm Xm Pm) am M1.1 M1.2.1 M1.2.2.1 M1.2.2.2.1 M1.2.2.2.2 := fun X => bl_mc h1
  have ob : ∀ X, (mc_put (bo_put G a I A J X P) (a + 1) Im Am Jm Xm Pm) am = some (.inr (2, mc_fs am M1.1 M1.2.2.2.2)) := fun X => hmc X 0 (by decide)
  have cb : ∀ X, (mc_put (bo_put G a I A J X P) (a + 1) Im Am Jm Xm Pm) (am + 9) = some (.inl (0, 19, .inl (M1.2.1 4))) := fun X => hmc X 9 (by decide)
  have cc : ∀ X, (mc_put (bo_put G a I A J X P) (a + 1) Im Am Jm Xm Pm) (am + 7) = some (.inl (4, 6, .inr (.inr (.inr (.inr (fun q => some (am + 58 + 2 * q))))))) := fun X => hmc X 7 (by decide)
  obtain ⟨p1, p2, p3, p4⟩ := mv_row3 hs1 hq
  have n1 := hm1.2.2.2.2.1
  have i1 := c_Mach_isClosing (w := w) (d := d) (G := (mc_put (bo_put G a I A J X P) (a + 1) Im Am Jm Xm Pm)) (a := am) (I := M1.1) (A := M1.2.1) (J := M1.2.2.1) (X := M1.2.2.2.1) (P := M1.2.2.2.2) (q := q) hm1.2.2.2.2.2.2.1 hm1.2.2.2.2.2.2.2.1 hs1.2.1 hal (by omega)
  rw [mc_id (hmc X)] at i1
  refine rz_enter' [some (.ref a), some (.ref am), some (.int (nI q)), none, none, none] (by decide +kernel) rfl rfl (Nat.le_of_ble_eq_true rfl) rfl ?_
  refine rz_blk' [(.aload_n 1, 1, 0, 0), (.iload_n 2, 1, 0, 0)] (by decide +kernel) (Nat.le_refl _) (Nat.le_refl _) (fun K R hK hR => ?_)
  simp only [↓rx_aload_n1, ↓rx_iload_n2, ↓rx_nil, ↓ry_li0s, ↓ry_li0z, ↓ry_lr0s, ↓ry_lr0z, ↓bl_ob, ↓bl_r71, ↓bl_i76, ↓bl_i77, ↓bl_i78, ↓bl_i79, ↓bl_r80, ↓bl_r81, rz_set, rz_nol, rz_clr, List.set_cons_zero, List.set_cons_succ, rz_tr, Nat.reduceAdd, Int.reduceAdd, Int.reduceToNat, Int.reduceSub, Int.reduceNeg, Int.cast_ofNat_Int]
  refine hK _ _ _ _ ?_
  refine rz_cV (As := [.int (nI q)]) (b := am) (S := []) l_Bld_127 (by decide +kernel) rfl (ob _) rfl (Nat.le_of_ble_eq_true rfl) (Nat.le_refl _) (Nat.le_refl _) (i1) (fun r G' hr => ?_)
  obtain ⟨rfl, hg⟩ := hr
  have hg := hg.symm
  subst hg
  simp only [Option.toList, List.cons_append, List.nil_append]
  generalize hacc : (if (cl &&& mv_al m cl).testBit q then some (ps_fin m q) else none) = acc
  have ecl : (if (cl &&& mv_al m cl).testBit q = true then (1 : Int32) else 0) = rz_b acc.isSome := by
    rw [← hacc]; split <;> rfl
  rw [ecl]
  have hf : bh_f m cl S.1 S.2 q = (mv_es m (mv_al m cl) q).foldl (bh_it m S.1 S.2) acc := by rw [bh_f, hacc]
  have hgo : ∀ X2, bl_xo X2 → bh_ag X X2 → (∀ h, acc = some h → X2 0 = h) → rz_T w (d + 1) 0 0 m_Bld_findHead 0 0 23 [some (.ref a), some (.ref am), some (.int (nI q)), some (.int (rz_b acc.isSome)), none, none] [] (mc_put (bo_put G a I A J X2 P) (a + 1) Im Am Jm Xm Pm) (fun r G' => r = some (.int (rz_b (bh_1 m cl S q).2)) ∧ ∃ I' X', G' = (mc_put (bo_put G a I' A J X' P) (a + 1) Im Am Jm Xm Pm) ∧ bh_st I' X' (bh_1 m cl S q).1 ∧ I' 1 = I 1 ∧ X' 2 = X 2 ∧ ∀ j, 9 ≤ j → X' j = X j) := by
    intro X2 hX2 hag hac
    refine rz_blk' [(.aload_n 1, 1, 0, 0), (.getfield 134, 3, 2, 12), (.iload_n 2, 1, 0, 0), (.iconst 3, 1, 0, 0), (.imul, 1, 0, 0), (.iaload, 1, 0, 0), (.istore 4, 2, 0, 0)] (by decide +kernel) (Nat.le_refl _) (Nat.le_refl _) (fun K R hK hR => ?_)
    simp only [rw_c3, ↓rx_aload_n1, ↓rx_getfield, ↓rx_iaload, ↓rx_iconst, ↓rx_iload_n2, ↓rx_imul, ↓rx_istore, ↓rx_nil, ↓ry_fvs, ↓ry_fvz, ↓ry_i1, ↓ry_i2, ↓ry_iau, ↓ry_li0s, ↓ry_li0z, ↓ry_lr0s, ↓ry_lr0z, ↓ry_obu, ↓ry_r1, ↓ry_ri, true_and, ↓bl_ob, ↓bl_r71, ↓bl_i76, ↓bl_i77, ↓bl_i78, ↓bl_i79, ↓bl_r80, ↓bl_r81, ↓rh_ob (ob _), ↓rh_ia (cb _), pk_mul, rz_set, rz_nol, rz_clr, List.set_cons_zero, List.set_cons_succ, rz_tr, Nat.reduceAdd, Int.reduceAdd, Int.reduceToNat, Int.reduceSub, Int.reduceNeg, Int.cast_ofNat_Int]
    rw [nI_clamp (by omega), p1]
    refine ⟨vp_in_nI (by omega) (by decide), hK _ _ _ _ ?_⟩
    have hl := bh_l (w := w) (d := d) (A := A) (J := J) (P := P) (Im := Im) (Am := Am) (Jm := Jm) (Xm := Xm) (Pm := Pm) (Q := (fun r G' => r = some (.int (rz_b (bh_1 m cl S q).2)) ∧ ∃ I' X', G' = (mc_put (bo_put G a I' A J X' P) (a + 1) Im Am Jm Xm Pm) ∧ bh_st I' X' (bh_1 m cl S q).1 ∧ I' 1 = I 1 ∧ X' 2 = X 2 ∧ ∀ j, 9 ≤ j → X' j = X j)) h1 h3 hq s0 s1 hb ((mv_es m (mv_al m cl) q).length + 1) 0 acc X2 none (by omega) (by omega) hX2 (fun q hq => by rw [hag _ (by omega)]; exact s2 q hq) hac
    simp only [Nat.add_zero, List.drop_zero] at hl
    rw [← hf] at hl
    refine hl (fun X3 z4 z5 t1 t2 t3 => ?_)
    have ag3 : bh_ag X X3 := fun j hj => (t2 j hj).trans (hag j hj)
    have hst3 : bh_st I X3 S := ⟨s0, s1, fun q hq => by rw [ag3 _ (by omega)]; exact s2 q hq, t1⟩
    have hno : (bh_1 m cl S q) = (S, false) → rz_T w (d + 1) 0 0 m_Bld_findHead 0 0 182 [some (.ref a), some (.ref am), some (.int (nI q)), some (.int (rz_b (bh_f m cl S.1 S.2 q).isSome)), z4, z5] [] (mc_put (bo_put G a I A J X3 P) (a + 1) Im Am Jm Xm Pm) (fun r G' => r = some (.int (rz_b (bh_1 m cl S q).2)) ∧ ∃ I' X', G' = (mc_put (bo_put G a I' A J X' P) (a + 1) Im Am Jm Xm Pm) ∧ bh_st I' X' (bh_1 m cl S q).1 ∧ I' 1 = I 1 ∧ X' 2 = X 2 ∧ ∀ j, 9 ≤ j → X' j = X j) := by
      intro e
      refine rz_blk' [(.iconst 0, 1, 0, 0), (.ireturn, 1, 0, 0)] (by decide +kernel) (Nat.le_refl _) (Nat.le_refl _) (fun K R hK hR => ?_)
      simp only [rw_c0, ↓rx_iconst, ↓rx_ireturn, ↓rx_nil, ↓bl_ob, ↓bl_r71, ↓bl_i76, ↓bl_i77, ↓bl_i78, ↓bl_i79, ↓bl_r80, ↓bl_r81, rz_set, rz_nol, rz_clr, List.set_cons_zero, List.set_cons_succ, rz_tr, Nat.reduceAdd, Int.reduceAdd, Int.reduceToNat, Int.reduceSub, Int.reduceNeg, Int.cast_ofNat_Int]
      exact hR _ _ rz_nb_0 ⟨by rw [e]; rfl, I, X3, rfl, by rw [e]; exact hst3, rfl, ag3 2 (by decide), fun j hj => ag3 j (by omega)⟩
    have hyes : ∀ h, bh_f m cl S.1 S.2 q = some h → ¬ (S.1.testBit q = true ∧ h = S.2 q) → rz_T w (d + 1) 0 0 m_Bld_findHead 0 0 184 [some (.ref a), some (.ref am), some (.int (nI q)), some (.int (rz_b (bh_f m cl S.1 S.2 q).isSome)), z4, z5] [] (mc_put (bo_put G a I A J X3 P) (a + 1) Im Am Jm Xm Pm) (fun r G' => r = some (.int (rz_b (bh_1 m cl S q).2)) ∧ ∃ I' X', G' = (mc_put (bo_put G a I' A J X' P) (a + 1) Im Am Jm Xm Pm) ∧ bh_st I' X' (bh_1 m cl S q).1 ∧ I' 1 = I 1 ∧ X' 2 = X 2 ∧ ∀ j, 9 ≤ j → X' j = X j) := by
      intro h e1 e2
      have e : bh_1 m cl S q = ((S.1 ||| 2 ^ q, va_up S.2 q h), true) := by simp only [bh_1, e1]; rw [if_neg e2]
      have hx0 : X3 0 = h := t3 h e1
      refine rz_blk' [(.aload_n 0, 1, 0, 0), (.dup, 1, 0, 0), (.getfield 115, 3, 8, 2), (.iconst 1, 1, 0, 0), (.iload_n 2, 1, 0, 0), (.ishl, 1, 0, 0), (.ior, 1, 0, 0), (.putfield 115, 3, 8, 2)] (by decide +kernel) (Nat.le_refl _) (Nat.le_refl _) (fun K R hK hR => ?_)
      simp only [List.length_cons, List.length_nil, Nat.reduceLT, rf_8_2, rw_c1, ↓rx_aload_n0, ↓rx_dup, ↓rx_getfield, ↓rx_iconst, ↓rx_iload_n2, ↓rx_ior, ↓rx_ishl, ↓rx_nil, ↓rx_putfield, ↓ry_fvs, ↓ry_fvz, ↓ry_i2, ↓ry_li0s, ↓ry_li0z, ↓ry_lr0s, ↓ry_lr0z, ↓ry_obu, ↓ry_r1, ↓ry_v1i, ↓ry_v1r, ↓ry_vr, true_and, ↓bl_ob, ↓bl_r71, ↓bl_i76, ↓bl_i77, ↓bl_i78, ↓bl_i79, ↓bl_r80, ↓bl_r81, s0, bl_u2, rz_set, rz_nol, rz_clr, List.set_cons_zero, List.set_cons_succ, rz_tr, Nat.reduceAdd, Int.reduceAdd, Int.reduceToNat, Int.reduceSub, Int.reduceNeg, Int.cast_ofNat_Int]
      rw [hp_bit q hq, hp_ors _ s1 q hq]
      refine hK _ _ _ _ ?_
      refine rz_blk' [(.aload_n 0, 1, 0, 0), (.getfield 20, 3, 8, 1), (.iload_n 2, 1, 0, 0), (.aaload, 1, 0, 0), (.aload_n 0, 1, 0, 0), (.getfield 27, 3, 8, 3)] (by decide +kernel) (Nat.le_refl _) (Nat.le_refl _) (fun K R hK hR => ?_)
      simp only [Nat.reduceEqDiff, false_or, or_false, or_true, reduceIte, ↓rx_aaload, ↓rx_aload_n0, ↓rx_getfield, ↓rx_iload_n2, ↓rx_nil, ↓ry_fvs, ↓ry_fvz, ↓ry_li0s, ↓ry_li0z, ↓ry_lr0s, ↓ry_lr0z, ↓ry_obu, ↓ry_r1, ↓ry_ri, true_and, true_or, ↓bl_ob, ↓bl_r71, ↓bl_i76, ↓bl_i77, ↓bl_i78, ↓bl_i79, ↓bl_r80, ↓bl_r81, va_rfs, rz_set, rz_nol, rz_clr, List.set_cons_zero, List.set_cons_succ, rz_tr, Nat.reduceAdd, Int.reduceAdd, Int.reduceToNat, Int.reduceSub, Int.reduceNeg, Int.cast_ofNat_Int]
      rw [nI_clamp (by omega)]
      refine ⟨vp_in_nI (by omega) (by decide), hK _ _ _ _ ?_⟩
      refine rz_cV (As := [.ref (a + 72)]) (b := a + (84 + 4 * q)) (S := []) l_Bld_86 (by decide +kernel) rfl (bl_wiH hq (t1.2.1 q hq)).1 rfl (Nat.le_of_ble_eq_true rfl) (Nat.le_refl _) (Nat.le_refl _) (c_Word_copy (bl_wiH hq (t1.2.1 q hq)) (bl_wi72 (t1.1 0 (by decide))) (by omega)) (fun r G' hr => ?_)
      obtain ⟨rfl, rfl⟩ := hr
      have ok0 := t1.1 0 (by decide)
      rw [bl_wpH hq, if_pos (by have := ok0.1; omega), hx0]
      rw [hx0] at ok0
      simp only [Option.toList, List.nil_append]
      refine rz_blk' [(.iconst 1, 1, 0, 0), (.ireturn, 1, 0, 0)] (by decide +kernel) (Nat.le_refl _) (Nat.le_refl _) (fun K R hK hR => ?_)
      simp only [rw_c1, ↓rx_iconst, ↓rx_ireturn, ↓rx_nil, ↓bl_ob, ↓bl_r71, ↓bl_i76, ↓bl_i77, ↓bl_i78, ↓bl_i79, ↓bl_r80, ↓bl_r81, rz_set, rz_nol, rz_clr, List.set_cons_zero, List.set_cons_succ, rz_tr, Nat.reduceAdd, Int.reduceAdd, Int.reduceToNat, Int.reduceSub, Int.reduceNeg, Int.cast_ofNat_Int]
      refine hR _ _ rz_nb_1 ⟨by rw [e]; rfl, _, _, rfl, ?_, pk_un (by decide), by rw [va_up_ne _ _ (by omega)]; exact ag3 2 (by decide), fun j hj => by rw [va_up_ne _ _ (by omega)]; exact ag3 j (by omega)⟩
      rw [e]
      have h64 : S.1 ||| 2 ^ q < 64 := by
        have : 2 ^ q < 2 ^ 6 := Nat.pow_lt_pow_right (by decide) hq
        exact Nat.or_lt_two_pow (n := 6) s1 this
      refine ⟨pk_us, h64, fun q' hq' => ?_, bl_xo_up t1 (Or.inl ⟨Or.inr (by omega), ok0⟩)⟩
      dsimp only
      by_cases c : q' = q
      · subst c; rw [va_up_self, va_up_self]
      · rw [va_up_ne _ _ (by omega), va_up_ne _ _ c, ag3 _ (by omega)]; exact s2 q' hq'
    refine rz_blk' [(.iload_n 3, 1, 0, 0), (.ifCond .eq 30, 3, 0, 0), (.aload_n 0, 1, 0, 0), (.getfield 115, 3, 8, 2), (.iload_n 2, 1, 0, 0)] (by decide +kernel) (Nat.le_refl _) (Nat.le_refl _) (fun K R hK hR => ?_)
    simp only [↓rx_aload_n0, ↓rx_getfield, ↓rx_ifCond_eq, ↓rx_iload_n2, ↓rx_iload_n3, ↓rx_nil, ↓ry_fvs, ↓ry_fvz, ↓ry_i1, ↓ry_li0s, ↓ry_li0z, ↓ry_lr0s, ↓ry_lr0z, ↓ry_obu, ↓ry_r1, ↓bl_ob, ↓bl_r71, ↓bl_i76, ↓bl_i77, ↓bl_i78, ↓bl_i79, ↓bl_r80, ↓bl_r81, s0, rz_set, rz_nol, rz_clr, List.set_cons_zero, List.set_cons_succ, rz_tr, Nat.reduceAdd, Int.reduceAdd, Int.reduceToNat, Int.reduceSub, Int.reduceNeg, Int.cast_ofNat_Int]
    rw [rz_b_0]
    refine ⟨fun c => hK _ _ _ _ (hno ?_), fun c => hK _ _ _ _ ?_⟩
    · have c : bh_f m cl S.1 S.2 q = none := by
        cases e : bh_f m cl S.1 S.2 q with
        | none => rfl
        | some x => rw [e] at c; cases c
      simp only [bh_1, c]
    obtain ⟨h, hh⟩ : ∃ h, bh_f m cl S.1 S.2 q = some h := by
      cases e : bh_f m cl S.1 S.2 q with
      | none => rw [e] at c; exact absurd rfl c
      | some x => exact ⟨x, rfl⟩
    refine rz_cN (As := [.int (nI S.1), .int (nI q)]) (S := []) l_Bld_119 (by decide +kernel) rfl (Nat.le_of_ble_eq_true rfl) (Nat.le_refl _) (Nat.le_refl _) (c_Desk_has (by omega) (by omega)) (fun r G' hr => ?_)
    obtain ⟨rfl, hg⟩ := hr
    have hg := hg.symm
    subst hg
    simp only [Option.toList, List.cons_append, List.nil_append]
    by_cases ck : S.1.testBit q = true
    · rw [if_pos ck]
      refine rz_blk' [(.ifCond .eq 21, 3, 0, 0), (.aload_n 0, 1, 0, 0), (.getfield 27, 3, 8, 3), (.aload_n 0, 1, 0, 0), (.getfield 20, 3, 8, 1), (.iload_n 2, 1, 0, 0), (.aaload, 1, 0, 0)] (by decide +kernel) (Nat.le_refl _) (Nat.le_refl _) (fun K R hK hR => ?_)
      simp only [Nat.reduceEqDiff, false_or, or_false, or_true, reduceIte, ↓rx_aaload, ↓rx_aload_n0, ↓rx_getfield, ↓rx_ifCond_eq, ↓rx_iload_n2, ↓rx_nil, ↓ry_fvs, ↓ry_fvz, ↓ry_i1, ↓ry_li0s, ↓ry_li0z, ↓ry_lr0s, ↓ry_lr0z, ↓ry_obu, ↓ry_r1, ↓ry_ri, true_and, true_or, ↓bl_ob, ↓bl_r71, ↓bl_i76, ↓bl_i77, ↓bl_i78, ↓bl_i79, ↓bl_r80, ↓bl_r81, va_rfs, rz_set, rz_nol, rz_clr, List.set_cons_zero, List.set_cons_succ, rz_tr, Nat.reduceAdd, Int.reduceAdd, Int.reduceToNat, Int.reduceSub, Int.reduceNeg, Int.cast_ofNat_Int]
      rw [nI_clamp (by omega)]
      refine ⟨fun z => absurd z (by decide), fun _ => ⟨vp_in_nI (by omega) (by decide), hK _ _ _ _ ?_⟩⟩
      refine rz_cV (As := [.ref (a + (84 + 4 * q))]) (b := a + 72) (S := []) l_Bld_154 (by decide +kernel) rfl (bl_wi72 (t1.1 0 (by decide))).1 rfl (Nat.le_of_ble_eq_true rfl) (Nat.le_refl _) (Nat.le_refl _) (c_Word_isLike (bl_wi72 (t1.1 0 (by decide))) (bl_wiH hq (t1.2.1 q hq))) (fun r G' hr => ?_)
      obtain ⟨rfl, hg⟩ := hr
      have hg := hg.symm
      subst hg
      simp only [Option.toList, List.cons_append, List.nil_append]
      rw [t3 h hh, hst3.2.2.1 q hq]
      by_cases ce : h = S.2 q
      · rw [if_pos ce]
        refine rz_blk' [(.ifCond .eq 5, 3, 0, 0)] (by decide +kernel) (Nat.le_refl _) (Nat.le_refl _) (fun K R hK hR => ?_)
        simp only [↓rx_ifCond_eq, ↓rx_nil, ↓ry_i1, ↓bl_ob, ↓bl_r71, ↓bl_i76, ↓bl_i77, ↓bl_i78, ↓bl_i79, ↓bl_r80, ↓bl_r81, rz_set, rz_nol, rz_clr, List.set_cons_zero, List.set_cons_succ, rz_tr, Nat.reduceAdd, Int.reduceAdd, Int.reduceToNat, Int.reduceSub, Int.reduceNeg, Int.cast_ofNat_Int]
        refine ⟨fun z => absurd z (by decide), fun _ => hK _ _ _ _ (hno ?_)⟩
        simp only [bh_1, hh]; rw [if_pos ⟨ck, ce⟩]
      · rw [if_neg ce]
        refine rz_blk' [(.ifCond .eq 5, 3, 0, 0)] (by decide +kernel) (Nat.le_refl _) (Nat.le_refl _) (fun K R hK hR => ?_)
        simp only [↓rx_ifCond_eq, ↓rx_nil, ↓ry_i1, ↓bl_ob, ↓bl_r71, ↓bl_i76, ↓bl_i77, ↓bl_i78, ↓bl_i79, ↓bl_r80, ↓bl_r81, rz_set, rz_nol, rz_clr, List.set_cons_zero, List.set_cons_succ, rz_tr, Nat.reduceAdd, Int.reduceAdd, Int.reduceToNat, Int.reduceSub, Int.reduceNeg, Int.cast_ofNat_Int]
        exact ⟨fun _ => hK _ _ _ _ (hyes h hh (fun z => ce z.2)), fun z => absurd trivial z⟩
    · rw [if_neg ck]
      refine rz_blk' [(.ifCond .eq 21, 3, 0, 0)] (by decide +kernel) (Nat.le_refl _) (Nat.le_refl _) (fun K R hK hR => ?_)
      simp only [↓rx_ifCond_eq, ↓rx_nil, ↓ry_i1, ↓bl_ob, ↓bl_r71, ↓bl_i76, ↓bl_i77, ↓bl_i78, ↓bl_i79, ↓bl_r80, ↓bl_r81, rz_set, rz_nol, rz_clr, List.set_cons_zero, List.set_cons_succ, rz_tr, Nat.reduceAdd, Int.reduceAdd, Int.reduceToNat, Int.reduceSub, Int.reduceNeg, Int.cast_ofNat_Int]
      exact ⟨fun _ => hK _ _ _ _ (hyes h hh (fun z => ck z.1)), fun z => absurd trivial z⟩
  refine rz_blk' [(.istore_n 3, 1, 0, 0)] (by decide +kernel) (Nat.le_refl _) (Nat.le_refl _) (fun K R hK hR => ?_)
  simp only [↓rx_istore_n3, ↓rx_nil, ↓ry_i1, ↓bl_ob, ↓bl_r71, ↓bl_i76, ↓bl_i77, ↓bl_i78, ↓bl_i79, ↓bl_r80, ↓bl_r81, rz_set, rz_nol, rz_clr, List.set_cons_zero, List.set_cons_succ, rz_tr, Nat.reduceAdd, Int.reduceAdd, Int.reduceToNat, Int.reduceSub, Int.reduceNeg, Int.cast_ofNat_Int]
  refine hK _ _ _ _ ?_
  refine rz_blk' [(.iload_n 3, 1, 0, 0), (.ifCond .eq 16, 3, 0, 0), (.aload_n 0, 1, 0, 0), (.getfield 27, 3, 8, 3), (.aload_n 1, 1, 0, 0), (.getfield 131, 3, 2, 7), (.iload_n 2, 1, 0, 0), (.aaload, 1, 0, 0)] (by decide +kernel) (Nat.le_refl _) (Nat.le_refl _) (fun K R hK hR => ?_)
  simp only [Nat.reduceEqDiff, false_or, or_false, or_true, reduceIte, ↓rx_aaload, ↓rx_aload_n0, ↓rx_aload_n1, ↓rx_getfield, ↓rx_ifCond_eq, ↓rx_iload_n2, ↓rx_iload_n3, ↓rx_nil, ↓ry_fvs, ↓ry_fvz, ↓ry_i1, ↓ry_li0s, ↓ry_li0z, ↓ry_lr0s, ↓ry_lr0z, ↓ry_obu, ↓ry_r1, ↓ry_ri, true_and, true_or, ↓bl_ob, ↓bl_r71, ↓bl_i76, ↓bl_i77, ↓bl_i78, ↓bl_i79, ↓bl_r80, ↓bl_r81, ↓rh_ob (ob _), ↓rh_ra (cc _), va_rfs, rz_set, rz_nol, rz_clr, List.set_cons_zero, List.set_cons_succ, rz_tr, Nat.reduceAdd, Int.reduceAdd, Int.reduceToNat, Int.reduceSub, Int.reduceNeg, Int.cast_ofNat_Int]
  rw [rz_b_0]
  refine ⟨fun c => hK _ _ _ _ (hgo X hX (fun _ _ => rfl) (fun h e => ?_)), fun c => ?_⟩
  · rw [e] at c; cases c
  have cbit : (cl &&& mv_al m cl).testBit q = true := by
    cases e : (cl &&& mv_al m cl).testBit q with
    | false => rw [e] at hacc; rw [← hacc] at c; exact absurd rfl c
    | true => rfl
  rw [if_pos cbit] at hacc
  have ff := mv_fin hm1 hq cbit
  have kk := mc_is_wi (hmc X) hm1.2.2.2.2.2.2.2.2.2.2.2.2 (show 24 + q < 30 by omega)
  rw [ff, show am + 10 + 2 * (24 + q) = am + 58 + 2 * q by omega] at kk
  rw [nI_clamp (by omega)]
  refine ⟨vp_in_nI (by omega) (by decide), hK _ _ _ _ ?_⟩
  refine rz_cV (As := [.ref (am + 58 + 2 * q)]) (b := a + 72) (S := []) l_Bld_86 (by decide +kernel) rfl (bl_wi72 (hX.1 0 (by decide))).1 rfl (Nat.le_of_ble_eq_true rfl) (Nat.le_refl _) (Nat.le_refl _) (c_Word_copy (bl_wi72 (hX.1 0 (by decide))) kk (by omega)) (fun r G' hr => ?_)
  obtain ⟨rfl, rfl⟩ := hr
  rw [bl_wp72, if_pos (by have := kk.2.2.1; omega)]
  simp only [Option.toList, List.nil_append]
  exact hgo _ (bl_xo_up hX (Or.inl ⟨Or.inl (by decide), kk.2.2⟩)) (fun j hj => by rw [va_up_ne _ _ (by omega)]) (fun h e => by rw [← hacc] at e; cases e; exact va_up_self ..)

