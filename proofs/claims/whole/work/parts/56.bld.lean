/-! WriterDesk$Builder: makeEarly -/
def me_m (m : mv_T) (cl : Nat) (hd : Nat → List Nat) : mv_T := (m.1, (mv_so m (mv_al m cl) 18).map (me_e m hd), me_f m cl hd m.1, m.2.2.2 ++ hd 0)
set_option maxRecDepth 100000 in
set_option maxHeartbeats 4000000 in
theorem c_Bld_makeEarly {w : rz_w} {d : Nat} {G : rz_G} {a am : Nat} {I : Nat → Int32} {A : Nat → Nat → Int32} {J : Nat → Nat → Int64} {X : Nat → List Nat} {P : Nat → Nat} {M1 : mc_S} {m : mv_T} {cl : Nat} {S : bh_T} {Im : Nat → Int32} {Am : Nat → Nat → Int32} {Jm : Nat → Nat → Int64} {Xm : Nat → List Nat} {Pm : Nat → Nat} (h1 : mc_at' G am a 588 M1 m cl) (h3 : mv_w3 m) (hS : bh_st I X S) (hX : mc_ww Xm) (hb0 : (S.2 0).length ≤ 45) (hb : ∀ e ∈ mv_so m (mv_al m cl) 18, (S.2 (mv_e m e).2.2.1).length ≤ 45) (hfc : ∀ q, q < 6 → (cl &&& mv_al m cl).testBit q = true → (S.2 q).length ≤ (ps_fin m q).length) (hfix : ∀ e ∈ mv_so m (mv_al m cl) 18, (S.2 (mv_e m e).1).length ≤ ((mv_e m e).2.2.2 ++ S.2 (mv_e m e).2.2.1).length) :
    rz_C w (d + 3) 0 0 y_Bld_makeEarly m_Bld_makeEarly [.ref a, .ref am] (mc_put (bo_put G a I A J X P) (a + 1) Im Am Jm Xm Pm) (fun r G' => r = none ∧ ∃ Im Am Xm, G' = (mc_put (bo_put G a I A J X P) (a + 1) Im Am Jm Xm Pm) ∧ mv_is Im Am Xm (me_m m cl S.2) (me_c m cl m.1) ∧ mv_set Im Am (me_m m cl S.2) (me_c m cl m.1)) := by
  obtain ⟨-, hm1, hs1, ha1⟩ := id h1
  unfold mc_ap at ha1
  have m0 := hm1.1
  have m6 := hm1.2.2.1
  obtain ⟨s0, s1, s2, s3⟩ := id hS
  have w3 := h3.2.2.1
  have o30 : M1.2.2.2.1 30 = m.2.2.2 := hm1.2.2.2.2.2.2.2.2.2.2.2.1
  have hmc : ∀ Im Am Xm, mc_is (mc_put (bo_put G a I A J X P) (a + 1) Im Am Jm Xm Pm) am M1.1 M1.2.1 M1.2.2.1 M1.2.2.2.1 M1.2.2.2.2 := fun Im Am Xm => bl_mc h1
  have ob : ∀ Im Am Xm, (mc_put (bo_put G a I A J X P) (a + 1) Im Am Jm Xm Pm) am = some (.inr (2, mc_fs am M1.1 M1.2.2.2.2)) := fun Im Am Xm => hmc Im Am Xm 0 (by decide)
  have kk : ∀ Im Am Xm, wd_is (mc_put (bo_put G a I A J X P) (a + 1) Im Am Jm Xm Pm) (am + 5) 3 m.2.2.2 := fun Im Am Xm => by
    have := mc_is_wo (hmc Im Am Xm) hm1.2.2.2.2.2.2.2.2.2.2.2.2
    rw [o30] at this; exact this
  have wh : ∀ Im Am Xm, wd_is (mc_put (bo_put G a I A J X P) (a + 1) Im Am Jm Xm Pm) (a + 84) 3 (S.2 0) := fun Im Am Xm => by
    have := bl_wiH (G := G) (a := a) (I := I) (A := A) (J := J) (X := X) (P := P) (Im := Im) (Am := Am) (Jm := Jm) (Xm := Xm) (Pm := Pm) (q := 0) (by decide) (s3.2.1 0 (by decide))
    rw [s2 0 (by decide)] at this; exact this
  have we : ∀ Im Am Xm, mc_ww Xm → wd_is (mc_put (bo_put G a I A J X P) (a + 1) Im Am Jm Xm Pm) (a + 1 + 5) 3 (Xm 30) := fun Im Am Xm h => mc_wo h
  have wp : ∀ Im Am Xm xs, wd_put (mc_put (bo_put G a I A J X P) (a + 1) Im Am Jm Xm Pm) (a + 1 + 5) 3 xs = (mc_put (bo_put G a I A J X P) (a + 1) Im Am Jm (va_up Xm 30 xs) Pm) := fun Im Am Xm xs => mc_wq
  have ww : ∀ Xm xs, mc_ww Xm → wd_ok 3 xs → mc_ww (va_up Xm 30 xs) := fun Xm xs h h2 k hk => by
    by_cases c : k = 30
    · subst c; rw [va_up_self]; exact h2
    · rw [va_up_ne _ _ c]; exact h k hk
  refine rz_enter' [some (.ref a), some (.ref am), none, none, none] (by decide +kernel) rfl rfl (Nat.le_of_ble_eq_true rfl) rfl ?_
  refine rz_blk' [(.aload_n 0, 1, 0, 0), (.getfield 12, 3, 8, 0), (.aload_n 1, 1, 0, 0), (.getfield 118, 3, 2, 0)] (by decide +kernel) (Nat.le_refl _) (Nat.le_refl _) (fun K R hK hR => ?_)
  simp only [↓rx_aload_n0, ↓rx_aload_n1, ↓rx_getfield, ↓rx_nil, ↓ry_fvs, ↓ry_fvz, ↓ry_lr0s, ↓ry_lr0z, ↓ry_obu, ↓ry_r1, ↓bl_ob, ↓bl_r71, ↓bl_i76, ↓bl_i77, ↓bl_i78, ↓bl_i79, ↓bl_r80, ↓bl_r81, ↓mc_ob, ↓mc_i1, ↓mc_n1, ↓mc_i2, ↓mc_n2, ↓mc_i3, ↓mc_n3, ↓mc_r4, ↓mc_r7, ↓mc_i8, ↓mc_n8, ↓mc_i9, ↓mc_n9, ↓rh_ob (ob _ _ _), m0, rz_set, rz_nol, rz_clr, List.set_cons_zero, List.set_cons_succ, rz_tr, Nat.reduceAdd, Int.reduceAdd, Int.reduceToNat, Int.reduceSub, Int.reduceNeg, Int.cast_ofNat_Int]
  refine hK _ _ _ _ ?_
  refine rz_cV (As := [.int (nI m.1)]) (b := a + 1) (S := []) l_Bld_158 (by decide +kernel) rfl (mc_at (o := 0) (by decide)) rfl (Nat.le_of_ble_eq_true rfl) (Nat.le_refl _) (Nat.le_refl _) (c_Mach_reset hX _) (fun r G' hr => ?_)
  obtain ⟨rfl, rfl⟩ := hr
  simp only [Option.toList, List.nil_append]
  have ok0 := ww Xm [] hX (wd_ok_nil (by decide))
  generalize hIm2 : upd (upd (upd (upd Im 0 _) 1 _) 2 _) 3 _ = Im2
  generalize va_up Xm 30 [] = X1 at ok0
  refine rz_blk' [(.aload_n 0, 1, 0, 0), (.getfield 12, 3, 8, 0), (.getfield 85, 3, 2, 6), (.aload_n 1, 1, 0, 0), (.getfield 85, 3, 2, 6)] (by decide +kernel) (Nat.le_refl _) (Nat.le_refl _) (fun K R hK hR => ?_)
  simp only [↓rx_aload_n0, ↓rx_aload_n1, ↓rx_getfield, ↓rx_nil, ↓ry_fvs, ↓ry_fvz, ↓ry_lr0s, ↓ry_lr0z, ↓ry_obu, ↓ry_r1, ↓bl_ob, ↓bl_r71, ↓bl_i76, ↓bl_i77, ↓bl_i78, ↓bl_i79, ↓bl_r80, ↓bl_r81, ↓mc_ob, ↓mc_i1, ↓mc_n1, ↓mc_i2, ↓mc_n2, ↓mc_i3, ↓mc_n3, ↓mc_r4, ↓mc_r7, ↓mc_i8, ↓mc_n8, ↓mc_i9, ↓mc_n9, ↓rh_ob (ob _ _ _), rz_set, rz_nol, rz_clr, List.set_cons_zero, List.set_cons_succ, rz_tr, Nat.reduceAdd, Int.reduceAdd, Int.reduceToNat, Int.reduceSub, Int.reduceNeg, Int.cast_ofNat_Int]
  refine hK _ _ _ _ ?_
  refine rz_cV (As := [.ref (am + 5)]) (b := a + 1 + 5) (S := []) l_Bld_86 (by decide +kernel) rfl (we Im2 Am X1 ok0).1 rfl (Nat.le_of_ble_eq_true rfl) (Nat.le_refl _) (Nat.le_refl _) (c_Word_copy (we Im2 Am X1 ok0) (kk Im2 Am X1) (by omega)) (fun r G' hr => ?_)
  obtain ⟨rfl, rfl⟩ := hr
  rw [wp, if_pos (by omega)]
  simp only [Option.toList, List.nil_append]
  have ok1 := ww X1 _ ok0 (kk Im2 Am X1).2.2
  generalize hX2 : va_up X1 30 m.2.2.2 = X2 at ok1
  have x2s : X2 30 = m.2.2.2 := by rw [← hX2, va_up_self]
  have we2 := we Im2 Am X2 ok1
  rw [x2s] at we2
  refine rz_blk' [(.aload_n 0, 1, 0, 0), (.getfield 12, 3, 8, 0), (.getfield 85, 3, 2, 6), (.aload_n 0, 1, 0, 0), (.getfield 20, 3, 8, 1), (.iconst 0, 1, 0, 0), (.aaload, 1, 0, 0)] (by decide +kernel) (Nat.le_refl _) (Nat.le_refl _) (fun K R hK hR => ?_)
  simp only [Nat.reduceEqDiff, false_or, or_false, or_true, reduceIte, rw_c0, ↓rx_aaload, ↓rx_aload_n0, ↓rx_getfield, ↓rx_iconst, ↓rx_nil, ↓ry_fvs, ↓ry_fvz, ↓ry_lr0s, ↓ry_lr0z, ↓ry_obu, ↓ry_r1, ↓ry_ri, true_and, true_or, ↓bl_ob, ↓bl_r71, ↓bl_i76, ↓bl_i77, ↓bl_i78, ↓bl_i79, ↓bl_r80, ↓bl_r81, ↓mc_ob, ↓mc_i1, ↓mc_n1, ↓mc_i2, ↓mc_n2, ↓mc_i3, ↓mc_n3, ↓mc_r4, ↓mc_r7, ↓mc_i8, ↓mc_n8, ↓mc_i9, ↓mc_n9, va_rfs, rz_set, rz_nol, rz_clr, List.set_cons_zero, List.set_cons_succ, rz_tr, Nat.reduceAdd, Int.reduceAdd, Int.reduceToNat, Int.reduceSub, Int.reduceNeg, Int.cast_ofNat_Int]
  refine ⟨vp_in_nI (by decide) (by decide), hK _ _ _ _ ?_⟩
  refine rz_cV (As := [.ref (a + 84)]) (b := a + 1 + 5) (S := []) l_Bld_144 (by decide +kernel) rfl we2.1 rfl (Nat.le_of_ble_eq_true rfl) (Nat.le_refl _) (Nat.le_refl _) (c_Word_append we2 (wh Im2 Am X2) (by omega) (by omega)) (fun r G' hr => ?_)
  obtain ⟨rfl, rfl⟩ := hr
  rw [wp]
  simp only [Option.toList, List.nil_append]
  have oka : wd_ok 3 (m.2.2.2 ++ S.2 0) := wd_ok_app (kk Im2 Am X1).2.2 (wh Im2 Am X2).2.2.2.1 (by omega)
  have ok2 := ww X2 _ ok1 oka
  generalize hX3 : va_up X2 30 (m.2.2.2 ++ S.2 0) = X3 at ok2
  have x3s : X3 30 = m.2.2.2 ++ S.2 0 := by rw [← hX3, va_up_self]
  refine rz_blk' [(.iconst 0, 1, 0, 0), (.istore_n 2, 1, 0, 0)] (by decide +kernel) (Nat.le_refl _) (Nat.le_refl _) (fun K R hK hR => ?_)
  simp only [rw_c0, ↓rx_iconst, ↓rx_istore_n2, ↓rx_nil, ↓ry_i1, ↓bl_ob, ↓bl_r71, ↓bl_i76, ↓bl_i77, ↓bl_i78, ↓bl_i79, ↓bl_r80, ↓bl_r81, ↓mc_ob, ↓mc_i1, ↓mc_n1, ↓mc_i2, ↓mc_n2, ↓mc_i3, ↓mc_n3, ↓mc_r4, ↓mc_r7, ↓mc_i8, ↓mc_n8, ↓mc_i9, ↓mc_n9, rz_set, rz_nol, rz_clr, List.set_cons_zero, List.set_cons_succ, rz_tr, Nat.reduceAdd, Int.reduceAdd, Int.reduceToNat, Int.reduceSub, Int.reduceNeg, Int.cast_ofNat_Int]
  refine hK _ _ _ _ ?_
  refine me_l (op := m.2.2.2 ++ S.2 0) h1 hS hfc m.1 0 Im2 X3 (by omega) (by rw [← hIm2, pk_us]) ⟨?_, hm1.2.1, m6, ?_, by simp, fun e he => absurd he (Nat.not_lt_zero _), ?_, by simp [me_c], fun q hq => ?_, fun q hq => ?_, fun q hq xs hxs => ?_, x3s, ok2⟩ ?_
  · rw [← hIm2, pk_un (by decide), pk_un (by decide), pk_un (by decide), pk_us]
  · rw [← hIm2, pk_un (by decide), pk_un (by decide), pk_us]; rfl
  · rw [← hIm2, pk_un (by decide), pk_us]; rfl
  · simp [me_c, me_f]
  · simp [me_f]
  · simp [me_f] at hxs
  intro Im3 X4 z2 h30 hM
  refine rz_blk' [(.iconst 0, 1, 0, 0), (.istore_n 2, 1, 0, 0)] (by decide +kernel) (Nat.le_refl _) (Nat.le_refl _) (fun K R hK hR => ?_)
  simp only [rw_c0, ↓rx_iconst, ↓rx_istore_n2, ↓rx_nil, ↓ry_i1, ↓bl_ob, ↓bl_r71, ↓bl_i76, ↓bl_i77, ↓bl_i78, ↓bl_i79, ↓bl_r80, ↓bl_r81, ↓mc_ob, ↓mc_i1, ↓mc_n1, ↓mc_i2, ↓mc_n2, ↓mc_i3, ↓mc_n3, ↓mc_r4, ↓mc_r7, ↓mc_i8, ↓mc_n8, ↓mc_i9, ↓mc_n9, rz_set, rz_nol, rz_clr, List.set_cons_zero, List.set_cons_succ, rz_tr, Nat.reduceAdd, Int.reduceAdd, Int.reduceToNat, Int.reduceSub, Int.reduceNeg, Int.cast_ofNat_Int]
  refine hK _ _ _ _ ?_
  refine me_el h1 h3 hS hb hfix _ 0 Im3 Am X4 _ _ (Nat.zero_add _) h30 (by simpa using hM) ?_
  intro Im5 Am5 X5 L h35 hM5
  refine rz_blk' [(.aload_n 0, 1, 0, 0), (.getfield 12, 3, 8, 0)] (by decide +kernel) (Nat.le_refl _) (Nat.le_refl _) (fun K R hK hR => ?_)
  simp only [↓rx_aload_n0, ↓rx_getfield, ↓rx_nil, ↓ry_fvs, ↓ry_fvz, ↓ry_lr0s, ↓ry_lr0z, ↓ry_obu, ↓ry_r1, ↓bl_ob, ↓bl_r71, ↓bl_i76, ↓bl_i77, ↓bl_i78, ↓bl_i79, ↓bl_r80, ↓bl_r81, ↓mc_ob, ↓mc_i1, ↓mc_n1, ↓mc_i2, ↓mc_n2, ↓mc_i3, ↓mc_n3, ↓mc_r4, ↓mc_r7, ↓mc_i8, ↓mc_n8, ↓mc_i9, ↓mc_n9, rz_set, rz_nol, rz_clr, List.set_cons_zero, List.set_cons_succ, rz_tr, Nat.reduceAdd, Int.reduceAdd, Int.reduceToNat, Int.reduceSub, Int.reduceNeg, Int.cast_ofNat_Int]
  refine hK _ _ _ _ ?_
  refine rz_cV (As := []) (b := a + 1) (S := []) l_Bld_180 (by decide +kernel) rfl (mc_at (o := 0) (by decide)) rfl (Nat.le_of_ble_eq_true rfl) (Nat.le_refl _) (Nat.le_refl _) (c_Mach_settle (d := d) hM5 (Or.inl h35)) (fun r G' hr => ?_)
  obtain ⟨rfl, Im6, Am6, rfl, hM6, hS6⟩ := hr
  simp only [Option.toList, List.nil_append]
  refine rz_blk' [(.return_, 1, 0, 0)] (by decide +kernel) (Nat.le_refl _) (Nat.le_refl _) (fun K R hK hR => ?_)
  simp only [↓rx_nil, ↓rx_return_, ↓bl_ob, ↓bl_r71, ↓bl_i76, ↓bl_i77, ↓bl_i78, ↓bl_i79, ↓bl_r80, ↓bl_r81, ↓mc_ob, ↓mc_i1, ↓mc_n1, ↓mc_i2, ↓mc_n2, ↓mc_i3, ↓mc_n3, ↓mc_r4, ↓mc_r7, ↓mc_i8, ↓mc_n8, ↓mc_i9, ↓mc_n9, rz_set, rz_nol, rz_clr, List.set_cons_zero, List.set_cons_succ, rz_tr, Nat.reduceAdd, Int.reduceAdd, Int.reduceToNat, Int.reduceSub, Int.reduceNeg, Int.cast_ofNat_Int]
  exact hR _ _ (rz_nb_i (by decide)) ⟨rfl, Im6, Am6, X5, rfl, hM6, hS6⟩

