/-! WriterDesk$Builder: addSet -/
def ad_cl (em : mv_T) (ec : Nat) (T : bf_T) : Nat → Nat → Option (List Nat) → Option (List Nat)
  | 0, _, acc => acc
  | k + 1, q, acc => ad_cl em ec T k (q + 1) (if T.1.testBit q && (ec &&& mv_al em ec).testBit q then some (T.2 q ++ ps_fin em q) else acc)
/-- the final word of a new state -/
def ad_fw (em : mv_T) (ec : Nat) (T : bf_T) : Option (List Nat) := ad_cl em ec T 6 0 none
section ADL
variable {w : rz_w} {d : Nat} {G : rz_G} {a am n : Nat} {I : Nat → Int32} {A : Nat → Nat → Int32} {J : Nat → Nat → Int64} {P : Nat → Nat} {Im : Nat → Int32} {Am : Nat → Nat → Int32} {Jm : Nat → Nat → Int64} {Xm : Nat → List Nat} {Pm : Nat → Nat} {Is : Nat → Int32} {Js : Nat → Nat → Int64} {Ps : Nat → Nat} {em : mv_T} {ec : Nat} {T : bf_T} {Q : Option Value → rz_G → Prop}
set_option maxRecDepth 100000 in
set_option maxHeartbeats 4000000 in
theorem ad_l (hm : mv_is Im Am Xm em ec) (hs : mv_set Im Am em ec) (hap : am + 327 ≤ a ∨ a + 588 ≤ am) (hn : n < 40) (hfit : ∀ q, q < 6 → T.1.testBit q = true → (T.2 q).length + (ps_fin em q).length ≤ 176) :
    ∀ (k q : Nat) (acc : Option (List Nat)) (X : Nat → List Nat) (As : Nat → Nat → Int32) (Xs : Nat → List Nat), q + k = 6 → bf_st I X T → sm_xo Xs → As 1 n = rz_b acc.isSome → Xs (121 + n) = acc.getD [] →
      (∀ X' As' Xs', bf_st I X' T → sm_xo Xs' → (∀ j, j < 15 → X' j = X j) → (∀ p, q ≤ p → p < 6 → T.1.testBit p = true → X' (15 + (n * 6 + p)) = T.2 p) → (∀ i, i < 240 → (∀ p, q ≤ p → p < 6 → i ≠ n * 6 + p) → X' (15 + i) = X (15 + i)) → As' 0 = As 0 → As' 1 = upd (As 1) n (rz_b (ad_cl em ec T k q acc).isSome) → (∀ j, j ≠ 121 + n → Xs' j = Xs j) → Xs' (121 + n) = (ad_cl em ec T k q acc).getD [] → Q (some (.int (nI n))) (sm_put (mc_put (bo_put G a I A J X' P) (a + 1) Im Am Jm Xm Pm) am Is As' Js Xs' Ps)) →
      rz_T w (d + 1) 0 0 m_Bld_addSet 0 0 28 [some (.ref a), some (.ref am), some (.int (nI n)), some (.int (nI q))] [] (sm_put (mc_put (bo_put G a I A J X P) (a + 1) Im Am Jm Xm Pm) am Is As Js Xs Ps) Q := by
  have hal := mv_al64 hm
  intro k
  induction k with
  | zero =>
    intro q acc X As Xs hk hT hxs ha hx hc
    refine rz_blk' [(.iload_n 3, 1, 0, 0), (.bipush 6, 2, 0, 0), (.if_icmp .ge 91, 3, 0, 0)] (by decide +kernel) (Nat.le_refl _) (Nat.le_refl _) (fun K R hK hR => ?_)
    simp only [rw_b6, ↓rx_bipush, ↓rx_if_icmp_ge, ↓rx_iload_n3, ↓rx_nil, ↓ry_i2, ↓ry_li0s, ↓ry_li0z, ↓sm_ob, ↓sm_i1, ↓sm_n1, ↓sm_r2, ↓sm_i3, ↓sm_n3, ↓sm_r4, rz_set, rz_nol, rz_clr, List.set_cons_zero, List.set_cons_succ, rz_tr, Nat.reduceAdd, Int.reduceAdd, Int.reduceToNat, Int.reduceSub, Int.reduceNeg, Int.cast_ofNat_Int]
    rw [nI_leI (by omega) (by omega)]
    refine ⟨fun c => hK _ _ _ _ ?_, fun c => by omega⟩
    refine rz_blk' [(.iload_n 2, 1, 0, 0), (.ireturn, 1, 0, 0)] (by decide +kernel) (Nat.le_refl _) (Nat.le_refl _) (fun K R hK hR => ?_)
    simp only [↓rx_iload_n2, ↓rx_ireturn, ↓rx_nil, ↓ry_li0s, ↓ry_li0z, ↓sm_ob, ↓sm_i1, ↓sm_n1, ↓sm_r2, ↓sm_i3, ↓sm_n3, ↓sm_r4, rz_set, rz_nol, rz_clr, List.set_cons_zero, List.set_cons_succ, rz_tr, Nat.reduceAdd, Int.reduceAdd, Int.reduceToNat, Int.reduceSub, Int.reduceNeg, Int.cast_ofNat_Int]
    refine hR _ _ (rz_nb_i (by decide)) (hc X As Xs hT hxs (fun _ _ => rfl) (fun p h1 h2 => by omega) (fun _ _ _ => rfl) rfl ?_ (fun _ _ => rfl) hx)
    funext j
    simp only [ad_cl, ← ha, upd]
    split
    · next e => rw [e]
    · rfl
  | succ k ih =>
    intro q acc X As Xs hk hT hxs ha hx hc
    obtain ⟨s0, s1, s2, s3⟩ := id hT
    simp only [ad_cl] at hc
    have hob : ∀ X As Xs, (sm_put (mc_put (bo_put G a I A J X P) (a + 1) Im Am Jm Xm Pm) am Is As Js Xs Ps) a = some (.inr (8, bo_fs a I P)) := fun X As Xs => by rw [sm_out (by omega)]; exact bl_at0
    have h80 : ∀ X As Xs, (sm_put (mc_put (bo_put G a I A J X P) (a + 1) Im Am Jm Xm Pm) am Is As Js Xs Ps) (a + 80) = some (.inl (4, 240, .inr (.inr (.inr (.inr (fun i => some (a + (108 + 2 * i)))))))) := fun X As Xs => by rw [sm_out (by omega), mc_out (by omega)]; exact bo_at (o := 80) (by decide)
    have h81 : ∀ X As Xs, (sm_put (mc_put (bo_put G a I A J X P) (a + 1) Im Am Jm Xm Pm) am Is As Js Xs Ps) (a + 81) = some (.inl (4, 6, .inr (.inr (.inr (.inr (fun q => some (a + (86 + 4 * q)))))))) := fun X As Xs => by rw [sm_out (by omega), mc_out (by omega)]; exact bo_at (o := 81) (by decide)
    have hmc : ∀ X As Xs, mc_is (sm_put (mc_put (bo_put G a I A J X P) (a + 1) Im Am Jm Xm Pm) am Is As Js Xs Ps) (a + 1) Im Am Jm Xm Pm := fun X As Xs o ho => by rw [sm_out (by omega)]; exact mc_at ho
    have hnext : ∀ (acc2 : Option (List Nat)) X2 As2 Xs2, acc2 = (if T.1.testBit q && (ec &&& mv_al em ec).testBit q then some (T.2 q ++ ps_fin em q) else acc) → bf_st I X2 T → sm_xo Xs2 → As2 1 n = rz_b acc2.isSome → Xs2 (121 + n) = acc2.getD [] → (∀ j, j < 15 → X2 j = X j) → (T.1.testBit q = true → X2 (15 + (n * 6 + q)) = T.2 q) → (∀ i, i < 240 → i ≠ n * 6 + q → X2 (15 + i) = X (15 + i)) → As2 0 = As 0 → (∀ i, i ≠ n → As2 1 i = As 1 i) → (∀ j, j ≠ 121 + n → Xs2 j = Xs j) → rz_T w (d + 1) 0 0 m_Bld_addSet 0 0 116 [some (.ref a), some (.ref am), some (.int (nI n)), some (.int (nI q))] [] (sm_put (mc_put (bo_put G a I A J X2 P) (a + 1) Im Am Jm Xm Pm) am Is As2 Js Xs2 Ps) Q := by
      intro acc2 X2 As2 Xs2 e1 e2 e3 e4 e5 e6 e7 e8 e9 e10 e11
      refine rz_blk' [(.iinc 3 1, 3, 0, 0), (.goto (-91), 3, 0, 0)] (by decide +kernel) (Nat.le_refl _) (Nat.le_refl _) (fun K R hK hR => ?_)
      simp only [rw_c1, ↓rx_goto, ↓rx_iinc, ↓rx_nil, ↓ry_li0s, ↓ry_li0z, ↓sm_ob, ↓sm_i1, ↓sm_n1, ↓sm_r2, ↓sm_i3, ↓sm_n3, ↓sm_r4, nI_add, rz_set, rz_nol, rz_clr, List.set_cons_zero, List.set_cons_succ, rz_tr, Nat.reduceAdd, Int.reduceAdd, Int.reduceToNat, Int.reduceSub, Int.reduceNeg, Int.cast_ofNat_Int]
      rw [← e1] at hc
      refine hK _ _ _ _ (ih (q + 1) acc2 X2 As2 Xs2 (by omega) e2 e3 e4 e5 (fun X' As' Xs' t1 t2 t3 t4 t5 t6 t7 t8 t9 => hc X' As' Xs' t1 t2 (fun j hj => (t3 j hj).trans (e6 j hj)) (fun p h1 h2 h3 => ?_) (fun i hi h1 => ?_) (t6.trans e9) ?_ (fun j hj => (t8 j hj).trans (e11 j hj)) t9))
      · by_cases cp : p = q
        · subst cp
          rw [t5 _ (by omega) (fun p' _ _ => by omega)]; exact e7 h3
        · exact t4 p (by omega) h2 h3
      · rw [t5 i hi (fun p h2 h3 => h1 p (by omega) h3), e8 i hi (h1 q (Nat.le_refl _) (by omega))]
      · rw [t7]
        funext j
        simp only [upd]
        split
        · rfl
        · next cj => exact e10 j cj
    refine rz_blk' [(.iload_n 3, 1, 0, 0), (.bipush 6, 2, 0, 0), (.if_icmp .ge 91, 3, 0, 0), (.aload_n 0, 1, 0, 0), (.getfield 90, 3, 8, 10), (.iload_n 3, 1, 0, 0)] (by decide +kernel) (Nat.le_refl _) (Nat.le_refl _) (fun K R hK hR => ?_)
    simp only [rw_b6, ↓rx_aload_n0, ↓rx_bipush, ↓rx_getfield, ↓rx_if_icmp_ge, ↓rx_iload_n3, ↓rx_nil, ↓ry_fvs, ↓ry_fvz, ↓ry_i2, ↓ry_li0s, ↓ry_li0z, ↓ry_lr0s, ↓ry_lr0z, ↓ry_obu, ↓ry_r1, ↓sm_ob, ↓sm_i1, ↓sm_n1, ↓sm_r2, ↓sm_i3, ↓sm_n3, ↓sm_r4, ↓rh_ob (hob _ _ _), s0, rz_set, rz_nol, rz_clr, List.set_cons_zero, List.set_cons_succ, rz_tr, Nat.reduceAdd, Int.reduceAdd, Int.reduceToNat, Int.reduceSub, Int.reduceNeg, Int.cast_ofNat_Int]
    rw [nI_leI (by omega) (by omega)]
    refine ⟨fun c => by omega, fun c => hK _ _ _ _ ?_⟩
    refine rz_cN (As := [.int (nI T.1), .int (nI q)]) (S := []) l_Bld_119 (by decide +kernel) rfl (Nat.le_of_ble_eq_true rfl) (Nat.le_refl _) (Nat.le_refl _) (c_Desk_has (by omega) (by omega)) (fun r G' hr => ?_)
    obtain ⟨rfl, hg⟩ := hr
    have hg := hg.symm
    subst hg
    simp only [Option.toList, List.cons_append, List.nil_append]
    by_cases ck : T.1.testBit q = true
    rotate_left
    · rw [if_neg ck]
      have ck : T.1.testBit q = false := by simpa using ck
      refine rz_blk' [(.ifCond .eq 74, 3, 0, 0)] (by decide +kernel) (Nat.le_refl _) (Nat.le_refl _) (fun K R hK hR => ?_)
      simp only [↓rx_ifCond_eq, ↓rx_nil, ↓ry_i1, ↓sm_ob, ↓sm_i1, ↓sm_n1, ↓sm_r2, ↓sm_i3, ↓sm_n3, ↓sm_r4, rz_set, rz_nol, rz_clr, List.set_cons_zero, List.set_cons_succ, rz_tr, Nat.reduceAdd, Int.reduceAdd, Int.reduceToNat, Int.reduceSub, Int.reduceNeg, Int.cast_ofNat_Int]
      exact ⟨fun _ => hK _ _ _ _ (hnext acc X As Xs (by simp [ck]) hT hxs ha hx (fun _ _ => rfl) (fun z => by rw [ck] at z; cases z) (fun _ _ _ => rfl) rfl (fun _ _ => rfl) (fun _ _ => rfl)), fun z => absurd trivial z⟩
    rw [if_pos ck]
    rw [ck, Bool.true_and] at hnext
    have wn := fun X (h : wd_ok 11 (X (9 + q))) => bl_wiN (G := G) (a := a) (I := I) (A := A) (J := J) (X := X) (P := P) (Im := Im) (Am := Am) (Jm := Jm) (Xm := Xm) (Pm := Pm) (q := q) (by omega) h
    have wn0 := wn X (s3.2.2.2.1 q (by omega))
    rw [s2 q (by omega)] at wn0
    have wr := bl_wi (G := G) (a := a) (I := I) (A := A) (J := J) (X := X) (P := P) (Im := Im) (Am := Am) (Jm := Jm) (Xm := Xm) (Pm := Pm) (j := n * 6 + q) (by omega) (s3.2.2.2.2 _ (by omega))
    have wr' := sm_rwi (a := am) (I := Is) (A := As) (J := Js) (X := Xs) (P := Ps) (by omega) wr
    have wn' := sm_rwi (a := am) (I := Is) (A := As) (J := Js) (X := Xs) (P := Ps) (by omega) wn0
    refine rz_blk' [(.ifCond .eq 74, 3, 0, 0), (.aload_n 0, 1, 0, 0), (.getfield 47, 3, 8, 9), (.iload_n 2, 1, 0, 0), (.bipush 6, 2, 0, 0), (.imul, 1, 0, 0), (.iload_n 3, 1, 0, 0), (.iadd, 1, 0, 0), (.aaload, 1, 0, 0), (.aload_n 0, 1, 0, 0), (.getfield 50, 3, 8, 11), (.iload_n 3, 1, 0, 0), (.aaload, 1, 0, 0)] (by decide +kernel) (Nat.le_refl _) (Nat.le_refl _) (fun K R hK hR => ?_)
    simp only [Nat.reduceEqDiff, false_or, or_false, or_true, reduceIte, rw_b6, ↓rx_aaload, ↓rx_aload_n0, ↓rx_bipush, ↓rx_getfield, ↓rx_iadd, ↓rx_ifCond_eq, ↓rx_iload_n2, ↓rx_iload_n3, ↓rx_imul, ↓rx_nil, ↓ry_fvs, ↓ry_fvz, ↓ry_i1, ↓ry_i2, ↓ry_li0s, ↓ry_li0z, ↓ry_lr0s, ↓ry_lr0z, ↓ry_obu, ↓ry_r1, ↓ry_ri, true_and, true_or, ↓sm_ob, ↓sm_i1, ↓sm_n1, ↓sm_r2, ↓sm_i3, ↓sm_n3, ↓sm_r4, ↓rh_ob (hob _ _ _), ↓rh_ra (h80 _ _ _), ↓rh_ra (h81 _ _ _), pk_mul, nI_add, va_rfs, rz_set, rz_nol, rz_clr, List.set_cons_zero, List.set_cons_succ, rz_tr, Nat.reduceAdd, Int.reduceAdd, Int.reduceToNat, Int.reduceSub, Int.reduceNeg, Int.cast_ofNat_Int]
    rw [nI_clamp (by omega), nI_clamp (by omega)]
    refine ⟨fun z => absurd z (by decide), fun _ => ⟨vp_in_nI (by omega) (by decide), vp_in_nI (by omega) (by decide), hK _ _ _ _ ?_⟩⟩
    refine rz_cV (As := [.ref (a + (86 + 4 * q))]) (b := a + (108 + 2 * (n * 6 + q))) (S := []) l_Bld_86 (by decide +kernel) rfl wr'.1 rfl (Nat.le_of_ble_eq_true rfl) (Nat.le_refl _) (Nat.le_refl _) (c_Word_copy wr' wn' (by omega)) (fun r G' hr => ?_)
    obtain ⟨rfl, rfl⟩ := hr
    rw [sm_rwd (by omega), bl_wp (by omega), if_pos (by have := wn0.2.2.1; omega)]
    simp only [Option.toList, List.nil_append]
    have x2o : bl_xo (va_up X (15 + (n * 6 + q)) (T.2 q)) := bl_xo_up s3 (Or.inr ⟨Or.inr (by omega), wn0.2.2⟩)
    generalize hX2 : va_up X (15 + (n * 6 + q)) (T.2 q) = X2 at x2o
    have x2s : X2 (15 + (n * 6 + q)) = T.2 q := by rw [← hX2, va_up_self]
    have x2n : ∀ j, j ≠ 15 + (n * 6 + q) → X2 j = X j := fun j hj => by rw [← hX2, va_up_ne _ _ hj]
    have hT2 : bf_st I X2 T := ⟨s0, s1, fun p hp => by rw [x2n _ (by omega)]; exact s2 p hp, x2o⟩
    have i1 := c_Mach_isClosing (w := w) (d := d) (G := (sm_put (mc_put (bo_put G a I A J X2 P) (a + 1) Im Am Jm Xm Pm) am Is As Js Xs Ps)) (a := a + 1) (I := Im) (A := Am) (J := Jm) (X := Xm) (P := Pm) (q := q) hm.2.2.2.2.2.2.1 hm.2.2.2.2.2.2.2.1 hs.2.1 hal (by omega)
    rw [mc_id (hmc _ _ _)] at i1
    refine rz_blk' [(.aload_n 0, 1, 0, 0), (.getfield 12, 3, 8, 0), (.iload_n 3, 1, 0, 0)] (by decide +kernel) (Nat.le_refl _) (Nat.le_refl _) (fun K R hK hR => ?_)
    simp only [↓rx_aload_n0, ↓rx_getfield, ↓rx_iload_n3, ↓rx_nil, ↓ry_fvs, ↓ry_fvz, ↓ry_li0s, ↓ry_li0z, ↓ry_lr0s, ↓ry_lr0z, ↓ry_obu, ↓ry_r1, ↓sm_ob, ↓sm_i1, ↓sm_n1, ↓sm_r2, ↓sm_i3, ↓sm_n3, ↓sm_r4, ↓rh_ob (hob _ _ _), rz_set, rz_nol, rz_clr, List.set_cons_zero, List.set_cons_succ, rz_tr, Nat.reduceAdd, Int.reduceAdd, Int.reduceToNat, Int.reduceSub, Int.reduceNeg, Int.cast_ofNat_Int]
    refine hK _ _ _ _ ?_
    refine rz_cV (As := [.int (nI q)]) (b := a + 1) (S := []) l_Bld_127 (by decide +kernel) rfl (hmc _ _ _ 0 (by decide)) rfl (Nat.le_of_ble_eq_true rfl) (Nat.le_refl _) (Nat.le_refl _) (i1) (fun r G' hr => ?_)
    obtain ⟨rfl, hg⟩ := hr
    have hg := hg.symm
    subst hg
    simp only [Option.toList, List.cons_append, List.nil_append]
    by_cases cc : (ec &&& mv_al em ec).testBit q = true
    rotate_left
    · rw [if_neg cc]
      refine rz_blk' [(.ifCond .eq 43, 3, 0, 0)] (by decide +kernel) (Nat.le_refl _) (Nat.le_refl _) (fun K R hK hR => ?_)
      simp only [↓rx_ifCond_eq, ↓rx_nil, ↓ry_i1, ↓sm_ob, ↓sm_i1, ↓sm_n1, ↓sm_r2, ↓sm_i3, ↓sm_n3, ↓sm_r4, rz_set, rz_nol, rz_clr, List.set_cons_zero, List.set_cons_succ, rz_tr, Nat.reduceAdd, Int.reduceAdd, Int.reduceToNat, Int.reduceSub, Int.reduceNeg, Int.cast_ofNat_Int]
      exact ⟨fun _ => hK _ _ _ _ (hnext acc X2 As Xs (by rw [if_neg cc]) hT2 hxs ha hx (fun j hj => x2n j (by omega)) (fun _ => x2s) (fun i hi hne => x2n _ (by omega)) rfl (fun _ _ => rfl) (fun _ _ => rfl)), fun z => absurd trivial z⟩
    rw [if_pos cc]
    rw [if_pos cc] at hnext
    have hff := hfit q (by omega) ck
    have wn2 := wn X2 (x2o.2.2.2.1 q (by omega))
    rw [hT2.2.2.1 q (by omega)] at wn2
    refine rz_blk' [(.ifCond .eq 43, 3, 0, 0), (.aload_n 1, 1, 0, 0), (.getfield 219, 3, 7, 3), (.iload_n 2, 1, 0, 0), (.iconst 1, 1, 0, 0), (.bastore, 1, 0, 0)] (by decide +kernel) (Nat.le_refl _) (Nat.le_refl _) (fun K R hK hR => ?_)
    simp only [Nat.reduceEqDiff, false_or, or_false, or_true, reduceIte, rw_c1, ↓rx_aload_n1, ↓rx_bastore, ↓rx_getfield, ↓rx_iconst, ↓rx_ifCond_eq, ↓rx_iload_n2, ↓rx_nil, ↓ry_fvs, ↓ry_fvz, ↓ry_i1, ↓ry_iau, ↓ry_li0s, ↓ry_li0z, ↓ry_lr0s, ↓ry_lr0z, ↓ry_obu, ↓ry_r1, ↓ry_rii, true_and, true_or, ↓sm_ob, ↓sm_i1, ↓sm_n1, ↓sm_r2, ↓sm_i3, ↓sm_n3, ↓sm_r4, sm_a3, rz_set, rz_nol, rz_clr, List.set_cons_zero, List.set_cons_succ, rz_tr, Nat.reduceAdd, Int.reduceAdd, Int.reduceToNat, Int.reduceSub, Int.reduceNeg, Int.cast_ofNat_Int]
    rw [nI_clamp (by omega)]
    refine ⟨fun z => absurd z (by decide), fun _ => ⟨vp_in_nI (by omega) (by decide), hK _ _ _ _ ?_⟩⟩
    generalize hAs2 : va_up As 1 _ = As2
    have as1 : As2 1 = upd (As 1) n (nI 1) := by rw [← hAs2, va_up_self]; rfl
    have as0 : As2 0 = As 0 := by rw [← hAs2, va_up_ne _ _ (by decide)]
    have wc := fun Xs (h : wd_ok 11 (Xs (1 + (120 + n)))) => sm_wi (G := (mc_put (bo_put G a I A J X2 P) (a + 1) Im Am Jm Xm Pm)) (a := am) (I := Is) (A := As2) (J := Js) (X := Xs) (P := Ps) (j := 120 + n) (by omega) h
    have wc0 := wc Xs (hxs _ (by omega))
    have wn3 := sm_rwi (a := am) (I := Is) (A := As2) (J := Js) (X := Xs) (P := Ps) (by omega) wn2
    refine rz_blk' [(.aload_n 1, 1, 0, 0), (.getfield 223, 3, 7, 4), (.iload_n 2, 1, 0, 0), (.aaload, 1, 0, 0), (.aload_n 0, 1, 0, 0), (.getfield 50, 3, 8, 11), (.iload_n 3, 1, 0, 0), (.aaload, 1, 0, 0)] (by decide +kernel) (Nat.le_refl _) (Nat.le_refl _) (fun K R hK hR => ?_)
    simp only [Nat.reduceEqDiff, false_or, or_false, or_true, reduceIte, ↓rx_aaload, ↓rx_aload_n0, ↓rx_aload_n1, ↓rx_getfield, ↓rx_iload_n2, ↓rx_iload_n3, ↓rx_nil, ↓ry_fvs, ↓ry_fvz, ↓ry_li0s, ↓ry_li0z, ↓ry_lr0s, ↓ry_lr0z, ↓ry_obu, ↓ry_r1, ↓ry_ri, true_and, true_or, ↓sm_ob, ↓sm_i1, ↓sm_n1, ↓sm_r2, ↓sm_i3, ↓sm_n3, ↓sm_r4, ↓rh_ob (hob _ _ _), ↓rh_ra (h81 _ _ _), va_rfs, rz_set, rz_nol, rz_clr, List.set_cons_zero, List.set_cons_succ, rz_tr, Nat.reduceAdd, Int.reduceAdd, Int.reduceToNat, Int.reduceSub, Int.reduceNeg, Int.cast_ofNat_Int]
    rw [nI_clamp (by omega), nI_clamp (by omega)]
    refine ⟨vp_in_nI (by omega) (by decide), vp_in_nI (by omega) (by decide), hK _ _ _ _ ?_⟩
    refine rz_cV (As := [.ref (a + (86 + 4 * q))]) (b := am + (7 + 2 * (120 + n))) (S := []) l_Bld_86 (by decide +kernel) rfl wc0.1 rfl (Nat.le_of_ble_eq_true rfl) (Nat.le_refl _) (Nat.le_refl _) (c_Word_copy wc0 wn3 (by omega)) (fun r G' hr => ?_)
    obtain ⟨rfl, rfl⟩ := hr
    rw [sm_wp (by omega), if_pos (by have := wn2.2.2.1; omega)]
    simp only [Option.toList, List.nil_append]
    have wc1 := wc (va_up Xs (1 + (120 + n)) (T.2 q)) (by rw [va_up_self]; exact wn2.2.2)
    rw [va_up_self] at wc1
    have ff := mv_fin (S := (Im, Am, Jm, Xm, Pm)) hm (show q < 6 by omega) cc
    have kk := mc_is_wi (hmc X2 As2 (va_up Xs (1 + (120 + n)) (T.2 q))) hm.2.2.2.2.2.2.2.2.2.2.2.2 (show 24 + q < 30 by omega)
    rw [show Xm (24 + q) = ps_fin em q from ff, show a + 1 + 10 + 2 * (24 + q) = a + 1 + 58 + 2 * q by omega] at kk
    have hom := hmc X2 As2 (va_up Xs (1 + (120 + n)) (T.2 q)) 0 (by decide)
    have h7 : (sm_put (mc_put (bo_put G a I A J X2 P) (a + 1) Im Am Jm Xm Pm) am Is As2 Js (va_up Xs (1 + (120 + n)) (T.2 q)) Ps) (a + 1 + 7) = some (.inl (4, 6, .inr (.inr (.inr (.inr (fun q => some (a + 1 + 58 + 2 * q))))))) := hmc _ _ _ 7 (by decide)
    refine rz_blk' [(.aload_n 1, 1, 0, 0), (.getfield 223, 3, 7, 4), (.iload_n 2, 1, 0, 0), (.aaload, 1, 0, 0), (.aload_n 0, 1, 0, 0), (.getfield 12, 3, 8, 0), (.getfield 131, 3, 2, 7), (.iload_n 3, 1, 0, 0), (.aaload, 1, 0, 0)] (by decide +kernel) (Nat.le_refl _) (Nat.le_refl _) (fun K R hK hR => ?_)
    simp only [Nat.reduceEqDiff, false_or, or_false, or_true, reduceIte, ↓rx_aaload, ↓rx_aload_n0, ↓rx_aload_n1, ↓rx_getfield, ↓rx_iload_n2, ↓rx_iload_n3, ↓rx_nil, ↓ry_fvs, ↓ry_fvz, ↓ry_li0s, ↓ry_li0z, ↓ry_lr0s, ↓ry_lr0z, ↓ry_obu, ↓ry_r1, ↓ry_ri, true_and, true_or, ↓sm_ob, ↓sm_i1, ↓sm_n1, ↓sm_r2, ↓sm_i3, ↓sm_n3, ↓sm_r4, ↓rh_ob (hob _ _ _), ↓rh_ob hom, ↓rh_ra h7, va_rfs, rz_set, rz_nol, rz_clr, List.set_cons_zero, List.set_cons_succ, rz_tr, Nat.reduceAdd, Int.reduceAdd, Int.reduceToNat, Int.reduceSub, Int.reduceNeg, Int.cast_ofNat_Int]
    rw [nI_clamp (by omega), nI_clamp (by omega)]
    refine ⟨vp_in_nI (by omega) (by decide), vp_in_nI (by omega) (by decide), hK _ _ _ _ ?_⟩
    refine rz_cV (As := [.ref (a + 1 + 58 + 2 * q)]) (b := am + (7 + 2 * (120 + n))) (S := []) l_Bld_144 (by decide +kernel) rfl wc1.1 rfl (Nat.le_of_ble_eq_true rfl) (Nat.le_refl _) (Nat.le_refl _) (c_Word_append wc1 kk (by omega) (by omega)) (fun r G' hr => ?_)
    obtain ⟨rfl, rfl⟩ := hr
    rw [sm_wp (by omega)]
    simp only [Option.toList, List.nil_append]
    have okf : wd_ok 11 (T.2 q ++ ps_fin em q) := wd_ok_app wn2.2.2 kk.2.2.2.1 (by omega)
    refine hnext (some (T.2 q ++ ps_fin em q)) X2 As2 _ rfl hT2 (fun j hj => ?_) (by rw [as1, pk_us]; rfl) (by rw [show 121 + n = 1 + (120 + n) by omega, va_up_self]; rfl) (fun j hj => x2n j (by omega)) (fun _ => x2s) (fun i hi hne => x2n _ (by omega)) as0 (fun i hi => by rw [as1, pk_un hi]) (fun j hj => by rw [va_up_ne _ _ (by omega), va_up_ne _ _ (by omega)])
    by_cases cj : j = 1 + (120 + n)
    · subst cj; rw [va_up_self]; exact okf
    · rw [va_up_ne _ _ cj, va_up_ne _ _ cj]; exact hxs j hj
end ADL

