/-! WriterDesk$Builder: makeEarly, the edges -/
def me_e (m : mv_T) (hd : Nat → List Nat) (e : Nat) : Nat × Nat × Nat × List Nat := ((mv_e m e).1, (mv_e m e).2.1, (mv_e m e).2.2.1, ((mv_e m e).2.2.2 ++ hd (mv_e m e).2.2.1).drop (hd (mv_e m e).1).length)
section MEE
variable {w : rz_w} {d : Nat} {G : rz_G} {a am : Nat} {I : Nat → Int32} {A : Nat → Nat → Int32} {J : Nat → Nat → Int64} {X : Nat → List Nat} {P : Nat → Nat} {M1 : mc_S} {m : mv_T} {cl ec : Nat} {S : bh_T} {op : List Nat} {fi : Nat → Option (List Nat)} {Jm : Nat → Nat → Int64} {Pm : Nat → Nat} {Q : Option Value → rz_G → Prop}
set_option maxRecDepth 100000 in
set_option maxHeartbeats 4000000 in
theorem me_el (h1 : mc_at' G am a 588 M1 m cl) (h3 : mv_w3 m) (hS : bh_st I X S) (hb : ∀ e ∈ mv_so m (mv_al m cl) 18, (S.2 (mv_e m e).2.2.1).length ≤ 45) (hfix : ∀ e ∈ mv_so m (mv_al m cl) 18, (S.2 (mv_e m e).1).length ≤ ((mv_e m e).2.2.2 ++ S.2 (mv_e m e).2.2.1).length) :
    ∀ (k i : Nat) (Im : Nat → Int32) (Am : Nat → Nat → Int32) (Xm : Nat → List Nat) (z3 z4 : Option Value), i + k = (mv_so m (mv_al m cl) 18).length → Im 3 = nI 0 → mv_is Im Am Xm (m.1, ((mv_so m (mv_al m cl) 18).take i).map (me_e m S.2), fi, op) ec →
      (∀ Im Am Xm L, Im 3 = nI 0 → mv_is Im Am Xm (m.1, (mv_so m (mv_al m cl) 18).map (me_e m S.2), fi, op) ec → rz_T w (d + 3) 0 0 m_Bld_makeEarly 0 0 235 (some (.ref a) :: some (.ref am) :: L) [] (mc_put (bo_put G a I A J X P) (a + 1) Im Am Jm Xm Pm) Q) →
      rz_T w (d + 3) 0 0 m_Bld_makeEarly 0 0 114 [some (.ref a), some (.ref am), some (.int (nI i)), z3, z4] [] (mc_put (bo_put G a I A J X P) (a + 1) Im Am Jm Xm Pm) Q := by
  intro k
  obtain ⟨-, hm1, hs1, ha1⟩ := id h1
  unfold mc_ap at ha1
  have m6 := hm1.2.2.1
  have n1 := hm1.2.2.2.2.1
  obtain ⟨s0, s1, s2, s3⟩ := id hS
  obtain ⟨t1, t2, t3, t4⟩ := id hs1
  have h18 := t4 18 (by decide)
  have hle := mv_so_le (m := m) (al := mv_al m cl) 18
  have hmem : ∀ e ∈ mv_so m (mv_al m cl) 18, e < m.2.1.length := fun e he => (mv_so_mem he).1
  generalize hso : mv_so m (mv_al m cl) 18 = so at *
  have e18 : (nI 18).toNatClampNeg = 18 := nI_clamp (by decide)
  induction k with
  | zero =>
    intro i Im Am Xm z3 z4 hk h30 hM hc
    have ob : (mc_put (bo_put G a I A J X P) (a + 1) Im Am Jm Xm Pm) am = some (.inr (2, mc_fs am M1.1 M1.2.2.2.2)) := bl_mc h1 0 (by decide)
    have cb : (mc_put (bo_put G a I A J X P) (a + 1) Im Am Jm Xm Pm) (am + 9) = some (.inl (0, 19, .inl (M1.2.1 4))) := bl_mc h1 9 (by decide)
    refine rz_blk' [(.iload_n 2, 1, 0, 0), (.aload_n 1, 1, 0, 0), (.getfield 134, 3, 2, 12), (.bipush 18, 2, 0, 0), (.iaload, 1, 0, 0), (.if_icmp .ge 113, 3, 0, 0)] (by decide +kernel) (Nat.le_refl _) (Nat.le_refl _) (fun K R hK hR => ?_)
    simp only [rw_b18, ↓rx_aload_n1, ↓rx_bipush, ↓rx_getfield, ↓rx_iaload, ↓rx_if_icmp_ge, ↓rx_iload_n2, ↓rx_nil, ↓ry_fvs, ↓ry_fvz, ↓ry_i2, ↓ry_iau, ↓ry_li0s, ↓ry_li0z, ↓ry_lr0s, ↓ry_lr0z, ↓ry_obu, ↓ry_r1, ↓ry_ri, true_and, ↓bl_ob, ↓bl_r71, ↓bl_i76, ↓bl_i77, ↓bl_i78, ↓bl_i79, ↓bl_r80, ↓bl_r81, ↓mc_ob, ↓mc_i1, ↓mc_n1, ↓mc_i2, ↓mc_n2, ↓mc_i3, ↓mc_n3, ↓mc_r4, ↓mc_r7, ↓mc_i8, ↓mc_n8, ↓mc_i9, ↓mc_n9, ↓rh_ob ob, ↓rh_ia cb, rz_set, rz_nol, rz_clr, List.set_cons_zero, List.set_cons_succ, rz_tr, Nat.reduceAdd, Int.reduceAdd, Int.reduceToNat, Int.reduceSub, Int.reduceNeg, Int.cast_ofNat_Int]
    rw [e18, h18, nI_leI (by omega) (by omega)]
    have : i = so.length := by omega
    subst this
    rw [List.take_length] at hM
    exact ⟨vp_in_nI (by decide) (by decide), fun c => hK _ _ _ _ (hc Im Am Xm _ h30 hM), fun c => by omega⟩
  | succ k ih =>
    intro i Im Am Xm z3 z4 hk h30 hM hc
    have hil : i < so.length := by omega
    obtain ⟨e, hie⟩ : ∃ e, so[i]? = some e := ⟨_, List.getElem?_eq_getElem hil⟩
    have hee : so[i] = e := by
      rw [List.getElem?_eq_getElem hil] at hie; exact Option.some.inj hie
    have hes := List.mem_of_getElem? hie
    have he := hmem e hes
    have ee := hm1.2.2.2.2.2.1 e he
    rw [← mv_e_get he] at ee
    obtain ⟨le3, le8⟩ := h3.1 e he
    have hfx := hfix e hes
    have se : M1.2.1 3 i = nI e := by rw [t3 i hil, hee]
    have hmc : ∀ Im Am Xm, mc_is (mc_put (bo_put G a I A J X P) (a + 1) Im Am Jm Xm Pm) am M1.1 M1.2.1 M1.2.2.1 M1.2.2.2.1 M1.2.2.2.2 := fun Im Am Xm => bl_mc h1
    have ob : ∀ Im Am Xm, (mc_put (bo_put G a I A J X P) (a + 1) Im Am Jm Xm Pm) am = some (.inr (2, mc_fs am M1.1 M1.2.2.2.2)) := fun Im Am Xm => hmc Im Am Xm 0 (by decide)
    have cb : ∀ Im Am Xm, (mc_put (bo_put G a I A J X P) (a + 1) Im Am Jm Xm Pm) (am + 9) = some (.inl (0, 19, .inl (M1.2.1 4))) := fun Im Am Xm => hmc Im Am Xm 9 (by decide)
    have c8 : ∀ Im Am Xm, (mc_put (bo_put G a I A J X P) (a + 1) Im Am Jm Xm Pm) (am + 8) = some (.inl (0, 24, .inl (M1.2.1 3))) := fun Im Am Xm => hmc Im Am Xm 8 (by decide)
    have c1 : ∀ Im Am Xm, (mc_put (bo_put G a I A J X P) (a + 1) Im Am Jm Xm Pm) (am + 1) = some (.inl (0, 24, .inl (M1.2.1 0))) := fun Im Am Xm => hmc Im Am Xm 1 (by decide)
    have c2 : ∀ Im Am Xm, (mc_put (bo_put G a I A J X P) (a + 1) Im Am Jm Xm Pm) (am + 2) = some (.inl (0, 24, .inl (M1.2.1 1))) := fun Im Am Xm => hmc Im Am Xm 2 (by decide)
    have c3 : ∀ Im Am Xm, (mc_put (bo_put G a I A J X P) (a + 1) Im Am Jm Xm Pm) (am + 3) = some (.inl (0, 24, .inl (M1.2.1 2))) := fun Im Am Xm => hmc Im Am Xm 3 (by decide)
    have c4 : ∀ Im Am Xm, (mc_put (bo_put G a I A J X P) (a + 1) Im Am Jm Xm Pm) (am + 4) = some (.inl (4, 24, .inr (.inr (.inr (.inr (fun e => some (am + 10 + 2 * e))))))) := fun Im Am Xm => hmc Im Am Xm 4 (by decide)
    obtain ⟨v0, v1, v2, v3, v4, v5, v6, v7, v8, v9, v10, v11, v12⟩ := id hM
    have vl : (List.map (me_e m S.2) (List.take i so)).length = i := by simp; omega
    dsimp only at v0 v1 v2 v3 v4 v5
    rw [vl] at v3
    refine rz_blk' [(.iload_n 2, 1, 0, 0), (.aload_n 1, 1, 0, 0), (.getfield 134, 3, 2, 12), (.bipush 18, 2, 0, 0), (.iaload, 1, 0, 0), (.if_icmp .ge 113, 3, 0, 0), (.aload_n 1, 1, 0, 0), (.getfield 137, 3, 2, 11), (.iload_n 2, 1, 0, 0), (.iaload, 1, 0, 0), (.istore_n 3, 1, 0, 0)] (by decide +kernel) (Nat.le_refl _) (Nat.le_refl _) (fun K R hK hR => ?_)
    simp only [rw_b18, ↓rx_aload_n1, ↓rx_bipush, ↓rx_getfield, ↓rx_iaload, ↓rx_if_icmp_ge, ↓rx_iload_n2, ↓rx_istore_n3, ↓rx_nil, ↓ry_fvs, ↓ry_fvz, ↓ry_i1, ↓ry_i2, ↓ry_iau, ↓ry_li0s, ↓ry_li0z, ↓ry_lr0s, ↓ry_lr0z, ↓ry_obu, ↓ry_r1, ↓ry_ri, true_and, ↓bl_ob, ↓bl_r71, ↓bl_i76, ↓bl_i77, ↓bl_i78, ↓bl_i79, ↓bl_r80, ↓bl_r81, ↓mc_ob, ↓mc_i1, ↓mc_n1, ↓mc_i2, ↓mc_n2, ↓mc_i3, ↓mc_n3, ↓mc_r4, ↓mc_r7, ↓mc_i8, ↓mc_n8, ↓mc_i9, ↓mc_n9, ↓rh_ob (ob _ _ _), ↓rh_ia (cb _ _ _), ↓rh_ia (c8 _ _ _), rz_set, rz_nol, rz_clr, List.set_cons_zero, List.set_cons_succ, rz_tr, Nat.reduceAdd, Int.reduceAdd, Int.reduceToNat, Int.reduceSub, Int.reduceNeg, Int.cast_ofNat_Int]
    rw [e18, h18, nI_leI (by omega) (by omega), nI_clamp (by omega), se]
    refine ⟨vp_in_nI (by decide) (by decide), fun c => by omega, fun c => ⟨vp_in_nI (by omega) (by decide), hK _ _ _ _ ?_⟩⟩
    refine rz_blk' [(.aload_n 0, 1, 0, 0), (.getfield 12, 3, 8, 0), (.aload_n 1, 1, 0, 0), (.getfield 170, 3, 2, 2), (.iload_n 3, 1, 0, 0), (.iaload, 1, 0, 0), (.aload_n 1, 1, 0, 0), (.getfield 173, 3, 2, 3), (.iload_n 3, 1, 0, 0), (.iaload, 1, 0, 0), (.aload_n 1, 1, 0, 0), (.getfield 140, 3, 2, 4), (.iload_n 3, 1, 0, 0), (.iaload, 1, 0, 0)] (by decide +kernel) (Nat.le_refl _) (Nat.le_refl _) (fun K R hK hR => ?_)
    simp only [↓rx_aload_n0, ↓rx_aload_n1, ↓rx_getfield, ↓rx_iaload, ↓rx_iload_n3, ↓rx_nil, ↓ry_fvs, ↓ry_fvz, ↓ry_iau, ↓ry_li0s, ↓ry_li0z, ↓ry_lr0s, ↓ry_lr0z, ↓ry_obu, ↓ry_r1, ↓ry_ri, true_and, ↓bl_ob, ↓bl_r71, ↓bl_i76, ↓bl_i77, ↓bl_i78, ↓bl_i79, ↓bl_r80, ↓bl_r81, ↓mc_ob, ↓mc_i1, ↓mc_n1, ↓mc_i2, ↓mc_n2, ↓mc_i3, ↓mc_n3, ↓mc_r4, ↓mc_r7, ↓mc_i8, ↓mc_n8, ↓mc_i9, ↓mc_n9, ↓rh_ob (ob _ _ _), ↓rh_ia (c1 _ _ _), ↓rh_ia (c2 _ _ _), ↓rh_ia (c3 _ _ _), rz_set, rz_nol, rz_clr, List.set_cons_zero, List.set_cons_succ, rz_tr, Nat.reduceAdd, Int.reduceAdd, Int.reduceToNat, Int.reduceSub, Int.reduceNeg, Int.cast_ofNat_Int]
    rw [nI_clamp (by omega), ee.1, ee.2.1, ee.2.2.1]
    refine ⟨vp_in_nI (by omega) (by decide), vp_in_nI (by omega) (by decide), vp_in_nI (by omega) (by decide), hK _ _ _ _ ?_⟩
    refine rz_cV (As := [.int (nI (mv_e m e).1), .int (nI (mv_e m e).2.1), .int (nI (mv_e m e).2.2.1)]) (b := a + 1) (S := []) l_Bld_176 (by decide +kernel) rfl (mc_at (o := 0) (by decide)) rfl (Nat.le_of_ble_eq_true rfl) (Nat.le_refl _) (Nat.le_refl _) (c_Mach_addEdge v3 (by omega) _ _ _) (fun r G' hr => ?_)
    obtain ⟨rfl, rfl⟩ := hr
    simp only [Option.toList, List.cons_append, List.nil_append]
    generalize hIm2 : upd (upd Im 1 _) 3 _ = Im2
    generalize hAm2 : va_up (va_up (va_up Am 0 _) 1 _) 2 _ = Am2
    refine rz_blk' [(.istore 4, 2, 0, 0)] (by decide +kernel) (Nat.le_refl _) (Nat.le_refl _) (fun K R hK hR => ?_)
    simp only [↓rx_istore, ↓rx_nil, ↓ry_i1, ↓bl_ob, ↓bl_r71, ↓bl_i76, ↓bl_i77, ↓bl_i78, ↓bl_i79, ↓bl_r80, ↓bl_r81, ↓mc_ob, ↓mc_i1, ↓mc_n1, ↓mc_i2, ↓mc_n2, ↓mc_i3, ↓mc_n3, ↓mc_r4, ↓mc_r7, ↓mc_i8, ↓mc_n8, ↓mc_i9, ↓mc_n9, rz_set, rz_nol, rz_clr, List.set_cons_zero, List.set_cons_succ, rz_tr, Nat.reduceAdd, Int.reduceAdd, Int.reduceToNat, Int.reduceSub, Int.reduceNeg, Int.cast_ofNat_Int]
    refine hK _ _ _ _ ?_
    have kk : ∀ Xm, wd_is (mc_put (bo_put G a I A J X P) (a + 1) Im2 Am2 Jm Xm Pm) (am + 10 + 2 * e) 3 (mv_e m e).2.2.2 := fun Xm => by
      have := mc_is_wi (hmc Im2 Am2 Xm) hm1.2.2.2.2.2.2.2.2.2.2.2.2 (show e < 30 by omega)
      rw [ee.2.2.2.1] at this; exact this
    have we : ∀ Xm, mc_ww Xm → wd_is (mc_put (bo_put G a I A J X P) (a + 1) Im2 Am2 Jm Xm Pm) (a + 1 + 10 + 2 * i) 3 (Xm i) := fun Xm h => mc_wi h (by omega)
    have wp : ∀ Xm xs, wd_put (mc_put (bo_put G a I A J X P) (a + 1) Im2 Am2 Jm Xm Pm) (a + 1 + 10 + 2 * i) 3 xs = mc_put (bo_put G a I A J X P) (a + 1) Im2 Am2 Jm (va_up Xm i xs) Pm := fun Xm xs => mc_wp (by omega)
    have ww : ∀ Xm xs, mc_ww Xm → wd_ok 3 xs → mc_ww (va_up Xm i xs) := fun Xm xs h h2 k hk => by
      by_cases c : k = i
      · subst c; rw [va_up_self]; exact h2
      · rw [va_up_ne _ _ c]; exact h k hk
    have wh : ∀ Xm q, q < 6 → wd_is (mc_put (bo_put G a I A J X P) (a + 1) Im2 Am2 Jm Xm Pm) (a + (84 + 4 * q)) 3 (S.2 q) := fun Xm q hq => by
      have := bl_wiH (G := G) (a := a) (I := I) (A := A) (J := J) (X := X) (P := P) (Im := Im2) (Am := Am2) (Jm := Jm) (Xm := Xm) (Pm := Pm) (q := q) hq (s3.2.1 q hq)
      rw [s2 q hq] at this; exact this
    refine rz_blk' [(.aload_n 0, 1, 0, 0), (.getfield 12, 3, 8, 0), (.getfield 143, 3, 2, 5), (.iload 4, 2, 0, 0), (.aaload, 1, 0, 0), (.aload_n 1, 1, 0, 0), (.getfield 143, 3, 2, 5), (.iload_n 3, 1, 0, 0), (.aaload, 1, 0, 0)] (by decide +kernel) (Nat.le_refl _) (Nat.le_refl _) (fun K R hK hR => ?_)
    simp only [Nat.reduceEqDiff, false_or, or_false, or_true, reduceIte, ↓rx_aaload, ↓rx_aload_n0, ↓rx_aload_n1, ↓rx_getfield, ↓rx_iload, ↓rx_iload_n3, ↓rx_nil, ↓ry_fvs, ↓ry_fvz, ↓ry_li0s, ↓ry_li0z, ↓ry_lr0s, ↓ry_lr0z, ↓ry_obu, ↓ry_r1, ↓ry_ri, true_and, true_or, ↓bl_ob, ↓bl_r71, ↓bl_i76, ↓bl_i77, ↓bl_i78, ↓bl_i79, ↓bl_r80, ↓bl_r81, ↓mc_ob, ↓mc_i1, ↓mc_n1, ↓mc_i2, ↓mc_n2, ↓mc_i3, ↓mc_n3, ↓mc_r4, ↓mc_r7, ↓mc_i8, ↓mc_n8, ↓mc_i9, ↓mc_n9, ↓rh_ob (ob _ _ _), ↓rh_ra (c4 _ _ _), va_rfs, rz_set, rz_nol, rz_clr, List.set_cons_zero, List.set_cons_succ, rz_tr, Nat.reduceAdd, Int.reduceAdd, Int.reduceToNat, Int.reduceSub, Int.reduceNeg, Int.cast_ofNat_Int]
    rw [nI_clamp (n := i) (by omega), nI_clamp (n := e) (by omega)]
    refine ⟨vp_in_nI (by omega) (by decide), vp_in_nI (by omega) (by decide), hK _ _ _ _ ?_⟩
    refine rz_cV (As := [.ref (am + 10 + 2 * e)]) (b := a + 1 + 10 + 2 * i) (S := []) l_Bld_86 (by decide +kernel) rfl (we Xm v12).1 rfl (Nat.le_of_ble_eq_true rfl) (Nat.le_refl _) (Nat.le_refl _) (c_Word_copy (we Xm v12) (kk Xm) (by omega)) (fun r G' hr => ?_)
    obtain ⟨rfl, rfl⟩ := hr
    rw [wp, if_pos (by omega)]
    simp only [Option.toList, List.nil_append]
    have ok1 := ww Xm _ v12 (kk Xm).2.2
    generalize hX1 : va_up Xm i (mv_e m e).2.2.2 = X1 at ok1
    have x1s : X1 i = (mv_e m e).2.2.2 := by rw [← hX1, va_up_self]
    have we1 := we X1 ok1
    rw [x1s] at we1
    have ht6 : (mv_e m e).2.2.1 < 6 := by omega
    have hf6 : (mv_e m e).1 < 6 := by omega
    have hb1 := hb e hes
    refine rz_blk' [(.aload_n 0, 1, 0, 0), (.getfield 12, 3, 8, 0), (.getfield 143, 3, 2, 5), (.iload 4, 2, 0, 0), (.aaload, 1, 0, 0), (.aload_n 0, 1, 0, 0), (.getfield 20, 3, 8, 1), (.aload_n 1, 1, 0, 0), (.getfield 140, 3, 2, 4), (.iload_n 3, 1, 0, 0), (.iaload, 1, 0, 0)] (by decide +kernel) (Nat.le_refl _) (Nat.le_refl _) (fun K R hK hR => ?_)
    simp only [Nat.reduceEqDiff, false_or, or_false, or_true, reduceIte, ↓rx_aaload, ↓rx_aload_n0, ↓rx_aload_n1, ↓rx_getfield, ↓rx_iaload, ↓rx_iload, ↓rx_iload_n3, ↓rx_nil, ↓ry_fvs, ↓ry_fvz, ↓ry_iau, ↓ry_li0s, ↓ry_li0z, ↓ry_lr0s, ↓ry_lr0z, ↓ry_obu, ↓ry_r1, ↓ry_ri, true_and, true_or, ↓bl_ob, ↓bl_r71, ↓bl_i76, ↓bl_i77, ↓bl_i78, ↓bl_i79, ↓bl_r80, ↓bl_r81, ↓mc_ob, ↓mc_i1, ↓mc_n1, ↓mc_i2, ↓mc_n2, ↓mc_i3, ↓mc_n3, ↓mc_r4, ↓mc_r7, ↓mc_i8, ↓mc_n8, ↓mc_i9, ↓mc_n9, ↓rh_ob (ob _ _ _), ↓rh_ia (c3 _ _ _), va_rfs, rz_set, rz_nol, rz_clr, List.set_cons_zero, List.set_cons_succ, rz_tr, Nat.reduceAdd, Int.reduceAdd, Int.reduceToNat, Int.reduceSub, Int.reduceNeg, Int.cast_ofNat_Int]
    rw [nI_clamp (n := i) (by omega), nI_clamp (n := e) (by omega), ee.2.2.1]
    refine ⟨vp_in_nI (by omega) (by decide), vp_in_nI (by omega) (by decide), hK _ _ _ _ ?_⟩
    refine rz_blk' [(.aaload, 1, 0, 0)] (by decide +kernel) (Nat.le_refl _) (Nat.le_refl _) (fun K R hK hR => ?_)
    simp only [Nat.reduceEqDiff, false_or, or_false, or_true, reduceIte, ↓rx_aaload, ↓rx_nil, ↓ry_ri, true_and, true_or, ↓bl_ob, ↓bl_r71, ↓bl_i76, ↓bl_i77, ↓bl_i78, ↓bl_i79, ↓bl_r80, ↓bl_r81, ↓mc_ob, ↓mc_i1, ↓mc_n1, ↓mc_i2, ↓mc_n2, ↓mc_i3, ↓mc_n3, ↓mc_r4, ↓mc_r7, ↓mc_i8, ↓mc_n8, ↓mc_i9, ↓mc_n9, va_rfs, rz_set, rz_nol, rz_clr, List.set_cons_zero, List.set_cons_succ, rz_tr, Nat.reduceAdd, Int.reduceAdd, Int.reduceToNat, Int.reduceSub, Int.reduceNeg, Int.cast_ofNat_Int]
    rw [nI_clamp (n := (mv_e m e).2.2.1) (by omega)]
    refine ⟨vp_in_nI (by omega) (by decide), hK _ _ _ _ ?_⟩
    refine rz_cV (As := [.ref (a + (84 + 4 * (mv_e m e).2.2.1))]) (b := a + 1 + 10 + 2 * i) (S := []) l_Bld_144 (by decide +kernel) rfl we1.1 rfl (Nat.le_of_ble_eq_true rfl) (Nat.le_refl _) (Nat.le_refl _) (c_Word_append we1 (wh X1 _ ht6) (by omega) (by omega)) (fun r G' hr => ?_)
    obtain ⟨rfl, rfl⟩ := hr
    rw [wp]
    simp only [Option.toList, List.nil_append]
    have oka : wd_ok 3 ((mv_e m e).2.2.2 ++ S.2 (mv_e m e).2.2.1) := wd_ok_app (kk Xm).2.2 (wh X1 _ ht6).2.2.2.1 (by omega)
    have ok2 := ww X1 _ ok1 oka
    generalize hX2 : va_up X1 i ((mv_e m e).2.2.2 ++ S.2 (mv_e m e).2.2.1) = X2 at ok2
    have x2s : X2 i = (mv_e m e).2.2.2 ++ S.2 (mv_e m e).2.2.1 := by rw [← hX2, va_up_self]
    have we2 := we X2 ok2
    rw [x2s] at we2
    refine rz_blk' [(.aload_n 0, 1, 0, 0), (.getfield 12, 3, 8, 0), (.getfield 143, 3, 2, 5), (.iload 4, 2, 0, 0), (.aaload, 1, 0, 0), (.aload_n 0, 1, 0, 0), (.getfield 20, 3, 8, 1), (.aload_n 1, 1, 0, 0), (.getfield 170, 3, 2, 2), (.iload_n 3, 1, 0, 0), (.iaload, 1, 0, 0)] (by decide +kernel) (Nat.le_refl _) (Nat.le_refl _) (fun K R hK hR => ?_)
    simp only [Nat.reduceEqDiff, false_or, or_false, or_true, reduceIte, ↓rx_aaload, ↓rx_aload_n0, ↓rx_aload_n1, ↓rx_getfield, ↓rx_iaload, ↓rx_iload, ↓rx_iload_n3, ↓rx_nil, ↓ry_fvs, ↓ry_fvz, ↓ry_iau, ↓ry_li0s, ↓ry_li0z, ↓ry_lr0s, ↓ry_lr0z, ↓ry_obu, ↓ry_r1, ↓ry_ri, true_and, true_or, ↓bl_ob, ↓bl_r71, ↓bl_i76, ↓bl_i77, ↓bl_i78, ↓bl_i79, ↓bl_r80, ↓bl_r81, ↓mc_ob, ↓mc_i1, ↓mc_n1, ↓mc_i2, ↓mc_n2, ↓mc_i3, ↓mc_n3, ↓mc_r4, ↓mc_r7, ↓mc_i8, ↓mc_n8, ↓mc_i9, ↓mc_n9, ↓rh_ob (ob _ _ _), ↓rh_ia (c1 _ _ _), va_rfs, rz_set, rz_nol, rz_clr, List.set_cons_zero, List.set_cons_succ, rz_tr, Nat.reduceAdd, Int.reduceAdd, Int.reduceToNat, Int.reduceSub, Int.reduceNeg, Int.cast_ofNat_Int]
    rw [nI_clamp (n := i) (by omega), nI_clamp (n := e) (by omega), ee.1]
    refine ⟨vp_in_nI (by omega) (by decide), vp_in_nI (by omega) (by decide), hK _ _ _ _ ?_⟩
    refine rz_blk' [(.aaload, 1, 0, 0)] (by decide +kernel) (Nat.le_refl _) (Nat.le_refl _) (fun K R hK hR => ?_)
    simp only [Nat.reduceEqDiff, false_or, or_false, or_true, reduceIte, ↓rx_aaload, ↓rx_nil, ↓ry_ri, true_and, true_or, ↓bl_ob, ↓bl_r71, ↓bl_i76, ↓bl_i77, ↓bl_i78, ↓bl_i79, ↓bl_r80, ↓bl_r81, ↓mc_ob, ↓mc_i1, ↓mc_n1, ↓mc_i2, ↓mc_n2, ↓mc_i3, ↓mc_n3, ↓mc_r4, ↓mc_r7, ↓mc_i8, ↓mc_n8, ↓mc_i9, ↓mc_n9, va_rfs, rz_set, rz_nol, rz_clr, List.set_cons_zero, List.set_cons_succ, rz_tr, Nat.reduceAdd, Int.reduceAdd, Int.reduceToNat, Int.reduceSub, Int.reduceNeg, Int.cast_ofNat_Int]
    rw [nI_clamp (n := (mv_e m e).1) (by omega)]
    refine ⟨vp_in_nI (by omega) (by decide), hK _ _ _ _ ?_⟩
    refine rz_blk' [(.getfield 164, 3, 0, 1)] (by decide +kernel) (Nat.le_refl _) (Nat.le_refl _) (fun K R hK hR => ?_)
    simp only [↓rx_getfield, ↓rx_nil, ↓ry_fvs, ↓ry_fvz, ↓ry_obu, ↓ry_r1, ↓bl_ob, ↓bl_r71, ↓bl_i76, ↓bl_i77, ↓bl_i78, ↓bl_i79, ↓bl_r80, ↓bl_r81, ↓mc_ob, ↓mc_i1, ↓mc_n1, ↓mc_i2, ↓mc_n2, ↓mc_i3, ↓mc_n3, ↓mc_r4, ↓mc_r7, ↓mc_i8, ↓mc_n8, ↓mc_i9, ↓mc_n9, ↓rh_ob (wh X2 _ hf6).1, rz_set, rz_nol, rz_clr, List.set_cons_zero, List.set_cons_succ, rz_tr, Nat.reduceAdd, Int.reduceAdd, Int.reduceToNat, Int.reduceSub, Int.reduceNeg, Int.cast_ofNat_Int]
    refine hK _ _ _ _ ?_
    refine rz_cV (As := [.int (nI (S.2 (mv_e m e).1).length)]) (b := a + 1 + 10 + 2 * i) (S := []) l_Bld_167 (by decide +kernel) rfl we2.1 rfl (Nat.le_of_ble_eq_true rfl) (Nat.le_refl _) (Nat.le_refl _) (c_Word_drop we2 hfx) (fun r G' hr => ?_)
    obtain ⟨rfl, rfl⟩ := hr
    rw [wp]
    simp only [Option.toList, List.nil_append]
    have okd : wd_ok 3 (((mv_e m e).2.2.2 ++ S.2 (mv_e m e).2.2.1).drop (S.2 (mv_e m e).1).length) := wd_ok_drop oka
    have ok3 := ww X2 _ ok2 okd
    generalize hX3 : va_up X2 i (((mv_e m e).2.2.2 ++ S.2 (mv_e m e).2.2.1).drop (S.2 (mv_e m e).1).length) = X3 at ok3
    have xs3 : X3 i = ((mv_e m e).2.2.2 ++ S.2 (mv_e m e).2.2.1).drop (S.2 (mv_e m e).1).length := by rw [← hX3, va_up_self]
    have xo3 : ∀ j, j ≠ i → X3 j = Xm j := fun j hj => by rw [← hX3, va_up_ne _ _ hj, ← hX2, va_up_ne _ _ hj, ← hX1, va_up_ne _ _ hj]
    have tk : (so.take (i + 1)).map (me_e m S.2) = (so.take i).map (me_e m S.2) ++ [me_e m S.2 e] := by
      rw [List.take_add_one, hie, Option.toList_some, List.map_append, List.map_cons, List.map_nil]
    refine rz_blk' [(.iinc 2 1, 3, 0, 0), (.goto (-118), 3, 0, 0)] (by decide +kernel) (Nat.le_refl _) (Nat.le_refl _) (fun K R hK hR => ?_)
    simp only [rw_c1, ↓rx_goto, ↓rx_iinc, ↓rx_nil, ↓ry_li0s, ↓ry_li0z, ↓bl_ob, ↓bl_r71, ↓bl_i76, ↓bl_i77, ↓bl_i78, ↓bl_i79, ↓bl_r80, ↓bl_r81, ↓mc_ob, ↓mc_i1, ↓mc_n1, ↓mc_i2, ↓mc_n2, ↓mc_i3, ↓mc_n3, ↓mc_r4, ↓mc_r7, ↓mc_i8, ↓mc_n8, ↓mc_i9, ↓mc_n9, nI_add, rz_set, rz_nol, rz_clr, List.set_cons_zero, List.set_cons_succ, rz_tr, Nat.reduceAdd, Int.reduceAdd, Int.reduceToNat, Int.reduceSub, Int.reduceNeg, Int.cast_ofNat_Int]
    refine hK _ _ _ _ (ih (i + 1) Im2 Am2 X3 _ _ (by omega) (by rw [← hIm2, pk_us]) ?_ hc)
    rw [tk]
    have l2 : ((so.take i).map (me_e m S.2) ++ [me_e m S.2 e]).length = i + 1 := by rw [List.length_append, vl]; rfl
    refine ⟨?_, v1, v2, ?_, ?_, fun k hk => ?_, ?_, v7, v8, v9, fun p hp xs hxs => ?_, ?_, ok3⟩
    · rw [← hIm2, pk_un (by decide), pk_un (by decide)]; exact v0
    · rw [← hIm2, pk_un (by decide), pk_us]; dsimp only; rw [l2]
    · dsimp only; rw [l2]; omega
    · dsimp only at hk ⊢
      rw [l2] at hk
      by_cases c : k = i
      · subst c
        have eg : ((so.take k).map (me_e m S.2) ++ [me_e m S.2 e])[k] = me_e m S.2 e := by
          rw [List.getElem_append_right (by rw [vl]; omega)]; simp [vl]
        rw [eg]
        dsimp only [me_e]
        rw [xs3, ← hAm2]
        exact ⟨by rw [va_up_ne _ _ (by decide), va_up_ne _ _ (by decide), va_up_self, pk_us], by rw [va_up_ne _ _ (by decide), va_up_self, pk_us], by rw [va_up_self, pk_us], rfl, by omega, by omega, by omega⟩
      · have k1 : k < ((so.take i).map (me_e m S.2)).length := by rw [vl]; omega
        have eg : ((so.take i).map (me_e m S.2) ++ [me_e m S.2 e])[k] = ((so.take i).map (me_e m S.2))[k] := List.getElem_append_left k1
        rw [eg, xo3 k c, ← hAm2]
        have v5' := v5 k k1
        rw [va_up_ne _ _ (show 0 ≠ 2 by decide), va_up_ne _ _ (show 0 ≠ 1 by decide), va_up_self, va_up_ne _ _ (show 1 ≠ 2 by decide), va_up_self, va_up_self, pk_un c, pk_un c, pk_un c]
        exact v5'
    · rw [← hIm2, pk_un (by decide), pk_un (by decide)]; exact v6
    · rw [xo3 _ (by omega)]; exact v10 p hp xs hxs
    · rw [xo3 _ (by omega)]; exact v11
end MEE

