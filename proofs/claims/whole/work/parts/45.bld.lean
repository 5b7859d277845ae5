/-! WriterDesk$Builder: followFrom, cutLead, follow -/
abbrev bf_T : Type := Nat × (Nat → List Nat)
def bf_st (I : Nat → Int32) (X : Nat → List Nat) (T : bf_T) : Prop := I 1 = nI T.1 ∧ T.1 < 64 ∧ (∀ q, q < 6 → X (9 + q) = T.2 q) ∧ bl_xo X
def bf_kp (I I' : Nat → Int32) (X X' : Nat → List Nat) : Prop := I' 0 = I 0 ∧ (∀ j, j < 9 → X' j = X j) ∧ ∀ j, 15 ≤ j → X' j = X j
theorem bf_kp.rfl' {I : Nat → Int32} {X : Nat → List Nat} : bf_kp I I X X := ⟨rfl, fun _ _ => rfl, fun _ _ => rfl⟩
theorem bf_kp.trans {I I' I2 : Nat → Int32} {X X' X2 : Nat → List Nat} (h : bf_kp I I' X X') (h2 : bf_kp I' I2 X' X2) : bf_kp I I2 X X2 := ⟨h2.1.trans h.1, fun j hj => (h2.2.1 j hj).trans (h.2.1 j hj), fun j hj => (h2.2.2 j hj).trans (h.2.2 j hj)⟩
def bf_e (em : mv_T) (rs : List Nat) (T : bf_T) (e : Nat) : bf_T := (T.1 ||| 2 ^ (mv_e em e).2.2.1, va_up T.2 (mv_e em e).2.2.1 (rs ++ (mv_e em e).2.2.2))
section BFL
variable {w : rz_w} {d : Nat} {G : rz_G} {a : Nat} {A : Nat → Nat → Int32} {J : Nat → Nat → Int64} {P : Nat → Nat} {Im : Nat → Int32} {Am : Nat → Nat → Int32} {Jm : Nat → Nat → Int64} {Xm : Nat → List Nat} {Pm : Nat → Nat} {em : mv_T} {ec q l ri : Nat} {rs : List Nat} {Q : Option Value → rz_G → Prop}
set_option maxRecDepth 100000 in
set_option maxHeartbeats 4000000 in
theorem bf_l (hm : mv_is Im Am Xm em ec) (hs : mv_set Im Am em ec) (hq : q < 6) (hl : l < 3) (hri : ri < 240) (hfit : ∀ e ∈ mv_pl em (mv_al em ec) (q * 3 + l), rs.length + (mv_e em e).2.2.2.length ≤ 176) :
    ∀ (k i : Nat) (T : bf_T) (I : Nat → Int32) (X : Nat → List Nat) (z6 z7 : Option Value), (mv_pl em (mv_al em ec) (q * 3 + l)).length + 1 ≤ i + k → i ≤ (mv_pl em (mv_al em ec) (q * 3 + l)).length → bf_st I X T → X (15 + ri) = rs →
      (∀ I' X', bf_st I' X' (((mv_pl em (mv_al em ec) (q * 3 + l)).drop i).foldl (bf_e em rs) T) → bf_kp I I' X X' → Q none (mc_put (bo_put G a I' A J X' P) (a + 1) Im Am Jm Xm Pm)) →
      rz_T w (d + 1) 0 0 m_Bld_followFrom 0 0 19 [some (.ref a), some (.int (nI q)), some (.int (nI l)), some (.ref (a + (108 + 2 * ri))), some (.int (nI (q * 3 + l))), some (.int (nI ((mv_so em (mv_al em ec) (q * 3 + l)).length + i))), z6, z7] [] (mc_put (bo_put G a I A J X P) (a + 1) Im Am Jm Xm Pm) Q := by
  intro k
  obtain ⟨p1, p2, p3, p4⟩ := mv_row hs (show q * 3 + l < 18 by omega)
  have n1 := hm.2.2.2.2.1
  have m6 := hm.2.2.1
  generalize hpl : mv_pl em (mv_al em ec) (q * 3 + l) = pl at *
  generalize hso : (mv_so em (mv_al em ec) (q * 3 + l)).length = so at *
  induction k with
  | zero => intro i T I X z6 z7 q1 q2; omega
  | succ k ih =>
    intro i T I X z6 z7 hk hi hS hX hc
    obtain ⟨s0, s1, s2, s3⟩ := id hS
    refine rz_blk' [(.iload 5, 2, 0, 0), (.aload_n 0, 1, 0, 0), (.getfield 12, 3, 8, 0), (.getfield 134, 3, 2, 12), (.iload 4, 2, 0, 0), (.iconst 1, 1, 0, 0), (.iadd, 1, 0, 0), (.iaload, 1, 0, 0), (.if_icmp .ge 77, 3, 0, 0), (.aload_n 0, 1, 0, 0), (.getfield 12, 3, 8, 0), (.getfield 137, 3, 2, 11), (.iload 5, 2, 0, 0), (.iaload, 1, 0, 0), (.istore 6, 2, 0, 0)] (by decide +kernel) (Nat.le_refl _) (Nat.le_refl _) (fun K R hK hR => ?_)
    simp only [rw_c1, ↓rx_aload_n0, ↓rx_getfield, ↓rx_iadd, ↓rx_iaload, ↓rx_iconst, ↓rx_if_icmp_ge, ↓rx_iload, ↓rx_istore, ↓rx_nil, ↓ry_fvs, ↓ry_fvz, ↓ry_i1, ↓ry_i2, ↓ry_iau, ↓ry_li0s, ↓ry_li0z, ↓ry_lr0s, ↓ry_lr0z, ↓ry_obu, ↓ry_r1, ↓ry_ri, true_and, ↓bl_ob, ↓bl_r71, ↓bl_i76, ↓bl_i77, ↓bl_i78, ↓bl_i79, ↓bl_r80, ↓bl_r81, ↓mc_ob, ↓mc_i1, ↓mc_n1, ↓mc_i2, ↓mc_n2, ↓mc_i3, ↓mc_n3, ↓mc_r4, ↓mc_r7, ↓mc_i8, ↓mc_n8, ↓mc_i9, ↓mc_n9, nI_add, rz_set, rz_nol, rz_clr, List.set_cons_zero, List.set_cons_succ, rz_tr, Nat.reduceAdd, Int.reduceAdd, Int.reduceToNat, Int.reduceSub, Int.reduceNeg, Int.cast_ofNat_Int]
    rw [nI_clamp (n := q * 3 + l + 1) (by omega), p2, nI_leI (by omega) (by omega)]
    refine ⟨vp_in_nI (by omega) (by decide), fun c1 => hK _ _ _ _ ?_, fun c1 => ?_⟩
    · have e0 : pl.drop i = [] := List.drop_of_length_le (by omega)
      rw [e0] at hc
      refine rz_blk' [(.return_, 1, 0, 0)] (by decide +kernel) (Nat.le_refl _) (Nat.le_refl _) (fun K R hK hR => ?_)
      simp only [↓rx_nil, ↓rx_return_, ↓bl_ob, ↓bl_r71, ↓bl_i76, ↓bl_i77, ↓bl_i78, ↓bl_i79, ↓bl_r80, ↓bl_r81, ↓mc_ob, ↓mc_i1, ↓mc_n1, ↓mc_i2, ↓mc_n2, ↓mc_i3, ↓mc_n3, ↓mc_r4, ↓mc_r7, ↓mc_i8, ↓mc_n8, ↓mc_i9, ↓mc_n9, rz_set, rz_nol, rz_clr, List.set_cons_zero, List.set_cons_succ, rz_tr, Nat.reduceAdd, Int.reduceAdd, Int.reduceToNat, Int.reduceSub, Int.reduceNeg, Int.cast_ofNat_Int]
      exact hR _ _ (rz_nb_i (by decide)) (hc I X hS bf_kp.rfl')
    have hil : i < pl.length := by omega
    obtain ⟨e, hie⟩ : ∃ e, pl[i]? = some e := ⟨_, List.getElem?_eq_getElem hil⟩
    have hdr : pl.drop i = e :: pl.drop (i + 1) := by
      rw [List.drop_eq_getElem_cons hil]
      congr 1
      rw [List.getElem?_eq_getElem hil] at hie
      exact Option.some.inj hie
    rw [hdr] at hc
    simp only [List.foldl_cons] at hc
    obtain ⟨se1, se2⟩ := p4 i e hie
    have ee := hm.2.2.2.2.2.1 e se2
    rw [← mv_e_get se2] at ee
    have hf := hfit e (List.mem_of_getElem? hie)
    rw [nI_clamp (by omega), se1]
    refine ⟨vp_in_nI (by omega) (by decide), hK _ _ _ _ ?_⟩
    refine rz_blk' [(.aload_n 0, 1, 0, 0), (.getfield 12, 3, 8, 0), (.getfield 140, 3, 2, 4), (.iload 6, 2, 0, 0), (.iaload, 1, 0, 0), (.istore 7, 2, 0, 0)] (by decide +kernel) (Nat.le_refl _) (Nat.le_refl _) (fun K R hK hR => ?_)
    simp only [↓rx_aload_n0, ↓rx_getfield, ↓rx_iaload, ↓rx_iload, ↓rx_istore, ↓rx_nil, ↓ry_fvs, ↓ry_fvz, ↓ry_i1, ↓ry_iau, ↓ry_li0s, ↓ry_li0z, ↓ry_lr0s, ↓ry_lr0z, ↓ry_obu, ↓ry_r1, ↓ry_ri, true_and, ↓bl_ob, ↓bl_r71, ↓bl_i76, ↓bl_i77, ↓bl_i78, ↓bl_i79, ↓bl_r80, ↓bl_r81, ↓mc_ob, ↓mc_i1, ↓mc_n1, ↓mc_i2, ↓mc_n2, ↓mc_i3, ↓mc_n3, ↓mc_r4, ↓mc_r7, ↓mc_i8, ↓mc_n8, ↓mc_i9, ↓mc_n9, rz_set, rz_nol, rz_clr, List.set_cons_zero, List.set_cons_succ, rz_tr, Nat.reduceAdd, Int.reduceAdd, Int.reduceToNat, Int.reduceSub, Int.reduceNeg, Int.cast_ofNat_Int]
    rw [nI_clamp (by omega), ee.2.2.1]
    refine ⟨vp_in_nI (by omega) (by decide), hK _ _ _ _ ?_⟩
    have hT : bf_e em rs T e = (T.1 ||| 2 ^ (mv_e em e).2.2.1, va_up T.2 (mv_e em e).2.2.1 (rs ++ (mv_e em e).2.2.2)) := rfl
    generalize hto : (mv_e em e).2.2.1 = t at *
    generalize hwe : (mv_e em e).2.2.2 = we at *
    refine rz_blk' [(.aload_n 0, 1, 0, 0), (.dup, 1, 0, 0), (.getfield 90, 3, 8, 10), (.iconst 1, 1, 0, 0), (.iload 7, 2, 0, 0), (.ishl, 1, 0, 0), (.ior, 1, 0, 0), (.putfield 90, 3, 8, 10)] (by decide +kernel) (Nat.le_refl _) (Nat.le_refl _) (fun K R hK hR => ?_)
    simp only [List.length_cons, List.length_nil, Nat.reduceLT, rf_8_10, rw_c1, ↓rx_aload_n0, ↓rx_dup, ↓rx_getfield, ↓rx_iconst, ↓rx_iload, ↓rx_ior, ↓rx_ishl, ↓rx_nil, ↓rx_putfield, ↓ry_fvs, ↓ry_fvz, ↓ry_i2, ↓ry_li0s, ↓ry_li0z, ↓ry_lr0s, ↓ry_lr0z, ↓ry_obu, ↓ry_r1, ↓ry_v1i, ↓ry_v1r, ↓ry_vr, true_and, ↓bl_ob, ↓bl_r71, ↓bl_i76, ↓bl_i77, ↓bl_i78, ↓bl_i79, ↓bl_r80, ↓bl_r81, ↓mc_ob, ↓mc_i1, ↓mc_n1, ↓mc_i2, ↓mc_n2, ↓mc_i3, ↓mc_n3, ↓mc_r4, ↓mc_r7, ↓mc_i8, ↓mc_n8, ↓mc_i9, ↓mc_n9, s0, bl_u10, rz_set, rz_nol, rz_clr, List.set_cons_zero, List.set_cons_succ, rz_tr, Nat.reduceAdd, Int.reduceAdd, Int.reduceToNat, Int.reduceSub, Int.reduceNeg, Int.cast_ofNat_Int]
    rw [hp_bit t (by omega), hp_ors _ s1 t (by omega)]
    refine hK _ _ _ _ ?_
    generalize hI2 : upd I 1 _ = I2
    have i20 : I2 0 = I 0 := by rw [← hI2, pk_un (by decide)]
    have i21 : I2 1 = nI (T.1 ||| 2 ^ t) := by rw [← hI2, pk_us]
    have w1 := fun (I : Nat → Int32) (X : Nat → List Nat) (h : wd_ok 11 (X (9 + t))) => bl_wiN (G := G) (a := a) (I := I) (A := A) (J := J) (X := X) (P := P) (Im := Im) (Am := Am) (Jm := Jm) (Xm := Xm) (Pm := Pm) (q := t) (by omega) h
    have w2 := bl_wi (G := G) (a := a) (I := I2) (A := A) (J := J) (X := X) (P := P) (Im := Im) (Am := Am) (Jm := Jm) (Xm := Xm) (Pm := Pm) (j := ri) hri (s3.2.2.2.2 ri hri)
    rw [hX] at w2
    refine rz_blk' [(.aload_n 0, 1, 0, 0), (.getfield 50, 3, 8, 11), (.iload 7, 2, 0, 0), (.aaload, 1, 0, 0), (.aload_n 3, 1, 0, 0)] (by decide +kernel) (Nat.le_refl _) (Nat.le_refl _) (fun K R hK hR => ?_)
    simp only [Nat.reduceEqDiff, false_or, or_false, or_true, reduceIte, ↓rx_aaload, ↓rx_aload_n0, ↓rx_aload_n3, ↓rx_getfield, ↓rx_iload, ↓rx_nil, ↓ry_fvs, ↓ry_fvz, ↓ry_li0s, ↓ry_li0z, ↓ry_lr0s, ↓ry_lr0z, ↓ry_obu, ↓ry_r1, ↓ry_ri, true_and, true_or, ↓bl_ob, ↓bl_r71, ↓bl_i76, ↓bl_i77, ↓bl_i78, ↓bl_i79, ↓bl_r80, ↓bl_r81, ↓mc_ob, ↓mc_i1, ↓mc_n1, ↓mc_i2, ↓mc_n2, ↓mc_i3, ↓mc_n3, ↓mc_r4, ↓mc_r7, ↓mc_i8, ↓mc_n8, ↓mc_i9, ↓mc_n9, va_rfs, rz_set, rz_nol, rz_clr, List.set_cons_zero, List.set_cons_succ, rz_tr, Nat.reduceAdd, Int.reduceAdd, Int.reduceToNat, Int.reduceSub, Int.reduceNeg, Int.cast_ofNat_Int]
    rw [nI_clamp (by omega)]
    refine ⟨vp_in_nI (by omega) (by decide), hK _ _ _ _ ?_⟩
    refine rz_cV (As := [.ref (a + (108 + 2 * ri))]) (b := a + (86 + 4 * t)) (S := []) l_Bld_86 (by decide +kernel) rfl (w1 _ _ (s3.2.2.2.1 t (by omega))).1 rfl (Nat.le_of_ble_eq_true rfl) (Nat.le_refl _) (Nat.le_refl _) (c_Word_copy (w1 _ _ (s3.2.2.2.1 t (by omega))) w2 (by omega)) (fun r G' hr => ?_)
    obtain ⟨rfl, rfl⟩ := hr
    rw [bl_wpN (by omega), if_pos (by have := w2.2.2.1; omega)]
    simp only [Option.toList, List.nil_append]
    have x1o : bl_xo (va_up X (9 + t) rs) := bl_xo_up s3 (Or.inr ⟨Or.inr (by omega), w2.2.2⟩)
    generalize hX1 : va_up X (9 + t) rs = X1 at *
    have x1s : X1 (9 + t) = rs := by rw [← hX1, va_up_self]
    have x1n : ∀ j, j ≠ 9 + t → X1 j = X j := fun j hj => by rw [← hX1, va_up_ne _ _ hj]
    have kk := mc_wi (G := bo_put G a I2 A J X1 P) (a := a + 1) (I := Im) (A := Am) (J := Jm) (P := Pm) hm.2.2.2.2.2.2.2.2.2.2.2.2 (show e < 30 by omega)
    rw [ee.2.2.2.1] at kk
    have w3 := w1 I2 X1 (x1o.2.2.2.1 t (by omega))
    rw [x1s] at w3
    refine rz_blk' [(.aload_n 0, 1, 0, 0), (.getfield 50, 3, 8, 11), (.iload 7, 2, 0, 0), (.aaload, 1, 0, 0), (.aload_n 0, 1, 0, 0), (.getfield 12, 3, 8, 0), (.getfield 143, 3, 2, 5), (.iload 6, 2, 0, 0), (.aaload, 1, 0, 0)] (by decide +kernel) (Nat.le_refl _) (Nat.le_refl _) (fun K R hK hR => ?_)
    simp only [Nat.reduceEqDiff, false_or, or_false, or_true, reduceIte, ↓rx_aaload, ↓rx_aload_n0, ↓rx_getfield, ↓rx_iload, ↓rx_nil, ↓ry_fvs, ↓ry_fvz, ↓ry_li0s, ↓ry_li0z, ↓ry_lr0s, ↓ry_lr0z, ↓ry_obu, ↓ry_r1, ↓ry_ri, true_and, true_or, ↓bl_ob, ↓bl_r71, ↓bl_i76, ↓bl_i77, ↓bl_i78, ↓bl_i79, ↓bl_r80, ↓bl_r81, ↓mc_ob, ↓mc_i1, ↓mc_n1, ↓mc_i2, ↓mc_n2, ↓mc_i3, ↓mc_n3, ↓mc_r4, ↓mc_r7, ↓mc_i8, ↓mc_n8, ↓mc_i9, ↓mc_n9, va_rfs, rz_set, rz_nol, rz_clr, List.set_cons_zero, List.set_cons_succ, rz_tr, Nat.reduceAdd, Int.reduceAdd, Int.reduceToNat, Int.reduceSub, Int.reduceNeg, Int.cast_ofNat_Int]
    rw [nI_clamp (by omega), nI_clamp (by omega)]
    refine ⟨vp_in_nI (by omega) (by decide), vp_in_nI (by omega) (by decide), hK _ _ _ _ ?_⟩
    refine rz_cV (As := [.ref (a + 1 + 10 + 2 * e)]) (b := a + (86 + 4 * t)) (S := []) l_Bld_144 (by decide +kernel) rfl w3.1 rfl (Nat.le_of_ble_eq_true rfl) (Nat.le_refl _) (Nat.le_refl _) (c_Word_append w3 kk (by omega) (by omega)) (fun r G' hr => ?_)
    obtain ⟨rfl, rfl⟩ := hr
    rw [bl_wpN (by omega)]
    simp only [Option.toList, List.nil_append]
    refine rz_blk' [(.iinc 5 1, 3, 0, 0), (.goto (-88), 3, 0, 0)] (by decide +kernel) (Nat.le_refl _) (Nat.le_refl _) (fun K R hK hR => ?_)
    simp only [rw_c1, ↓rx_goto, ↓rx_iinc, ↓rx_nil, ↓ry_li0s, ↓ry_li0z, ↓bl_ob, ↓bl_r71, ↓bl_i76, ↓bl_i77, ↓bl_i78, ↓bl_i79, ↓bl_r80, ↓bl_r81, ↓mc_ob, ↓mc_i1, ↓mc_n1, ↓mc_i2, ↓mc_n2, ↓mc_i3, ↓mc_n3, ↓mc_r4, ↓mc_r7, ↓mc_i8, ↓mc_n8, ↓mc_i9, ↓mc_n9, nI_add, rz_set, rz_nol, rz_clr, List.set_cons_zero, List.set_cons_succ, rz_tr, Nat.reduceAdd, Int.reduceAdd, Int.reduceToNat, Int.reduceSub, Int.reduceNeg, Int.cast_ofNat_Int]
    rw [Nat.add_assoc]
    have h64 : T.1 ||| 2 ^ t < 64 := by
      have : 2 ^ t < 2 ^ 6 := Nat.pow_lt_pow_right (by decide) (by omega)
      exact Nat.or_lt_two_pow (n := 6) s1 this
    have okw : wd_ok 11 (rs ++ we) := wd_ok_app w2.2.2 kk.2.2.2.1 (by omega)
    refine hK _ _ _ _ (ih (i + 1) (bf_e em rs T e) I2 _ _ _ (by omega) (by omega) ?_ (by rw [va_up_ne _ _ (by omega), x1n _ (by omega)]; exact hX) (fun I' X' t1 t2 => hc I' X' t1 (bf_kp.trans ⟨i20, fun j hj => ?_, fun j hj => ?_⟩ t2)))
    · rw [hT]
      refine ⟨i21, h64, fun q' hq' => ?_, bl_xo_up x1o (Or.inr ⟨Or.inr (by omega), okw⟩)⟩
      dsimp only
      by_cases c : q' = t
      · subst c; rw [va_up_self, va_up_self]
      · rw [va_up_ne _ _ (by omega), va_up_ne _ _ c, x1n _ (by omega)]; exact s2 q' hq'
    · rw [va_up_ne _ _ (by omega), x1n _ (by omega)]
    · rw [va_up_ne _ _ (by omega), x1n _ (by omega)]
end BFL

set_option maxRecDepth 100000 in
set_option maxHeartbeats 4000000 in
/-- followFrom(q, letter, rest) -/
theorem c_Bld_followFrom {w : rz_w} {d : Nat} {G : rz_G} {a : Nat} {I : Nat → Int32} {A : Nat → Nat → Int32} {J : Nat → Nat → Int64} {X : Nat → List Nat} {P : Nat → Nat} {Im : Nat → Int32} {Am : Nat → Nat → Int32} {Jm : Nat → Nat → Int64} {Xm : Nat → List Nat} {Pm : Nat → Nat} {em : mv_T} {ec q l ri : Nat} {rs : List Nat} {T : bf_T} (hm : mv_is Im Am Xm em ec) (hs : mv_set Im Am em ec) (hq : q < 6) (hl : l < 3) (hri : ri < 240) (hfit : ∀ e ∈ mv_pl em (mv_al em ec) (q * 3 + l), rs.length + (mv_e em e).2.2.2.length ≤ 176) (hS : bf_st I X T) (hX : X (15 + ri) = rs) :
    rz_C w (d + 1) 0 0 y_Bld_followFrom m_Bld_followFrom [.ref a, .int (nI q), .int (nI l), .ref (a + (108 + 2 * ri))] (mc_put (bo_put G a I A J X P) (a + 1) Im Am Jm Xm Pm) (fun r G' => r = none ∧ ∃ I' X', G' = (mc_put (bo_put G a I' A J X' P) (a + 1) Im Am Jm Xm Pm) ∧ bf_st I' X' ((mv_pl em (mv_al em ec) (q * 3 + l)).foldl (bf_e em rs) T) ∧ bf_kp I I' X X') := by
  obtain ⟨p1, p2, p3, p4⟩ := mv_row hs (show q * 3 + l < 18 by omega)
  refine rz_enter' [some (.ref a), some (.int (nI q)), some (.int (nI l)), some (.ref (a + (108 + 2 * ri))), none, none, none, none] (by decide +kernel) rfl rfl (Nat.le_of_ble_eq_true rfl) rfl ?_
  refine rz_blk' [(.iload_n 1, 1, 0, 0), (.iconst 3, 1, 0, 0), (.imul, 1, 0, 0), (.iload_n 2, 1, 0, 0), (.iadd, 1, 0, 0), (.istore 4, 2, 0, 0)] (by decide +kernel) (Nat.le_refl _) (Nat.le_refl _) (fun K R hK hR => ?_)
  simp only [rw_c3, ↓rx_iadd, ↓rx_iconst, ↓rx_iload_n1, ↓rx_iload_n2, ↓rx_imul, ↓rx_istore, ↓rx_nil, ↓ry_i1, ↓ry_i2, ↓ry_li0s, ↓ry_li0z, ↓bl_ob, ↓bl_r71, ↓bl_i76, ↓bl_i77, ↓bl_i78, ↓bl_i79, ↓bl_r80, ↓bl_r81, ↓mc_ob, ↓mc_i1, ↓mc_n1, ↓mc_i2, ↓mc_n2, ↓mc_i3, ↓mc_n3, ↓mc_r4, ↓mc_r7, ↓mc_i8, ↓mc_n8, ↓mc_i9, ↓mc_n9, pk_mul, nI_add, rz_set, rz_nol, rz_clr, List.set_cons_zero, List.set_cons_succ, rz_tr, Nat.reduceAdd, Int.reduceAdd, Int.reduceToNat, Int.reduceSub, Int.reduceNeg, Int.cast_ofNat_Int]
  refine hK _ _ _ _ ?_
  refine rz_blk' [(.aload_n 0, 1, 0, 0), (.getfield 12, 3, 8, 0), (.getfield 134, 3, 2, 12), (.iload 4, 2, 0, 0), (.iaload, 1, 0, 0), (.istore 5, 2, 0, 0)] (by decide +kernel) (Nat.le_refl _) (Nat.le_refl _) (fun K R hK hR => ?_)
  simp only [↓rx_aload_n0, ↓rx_getfield, ↓rx_iaload, ↓rx_iload, ↓rx_istore, ↓rx_nil, ↓ry_fvs, ↓ry_fvz, ↓ry_i1, ↓ry_iau, ↓ry_li0s, ↓ry_li0z, ↓ry_lr0s, ↓ry_lr0z, ↓ry_obu, ↓ry_r1, ↓ry_ri, true_and, ↓bl_ob, ↓bl_r71, ↓bl_i76, ↓bl_i77, ↓bl_i78, ↓bl_i79, ↓bl_r80, ↓bl_r81, ↓mc_ob, ↓mc_i1, ↓mc_n1, ↓mc_i2, ↓mc_n2, ↓mc_i3, ↓mc_n3, ↓mc_r4, ↓mc_r7, ↓mc_i8, ↓mc_n8, ↓mc_i9, ↓mc_n9, rz_set, rz_nol, rz_clr, List.set_cons_zero, List.set_cons_succ, rz_tr, Nat.reduceAdd, Int.reduceAdd, Int.reduceToNat, Int.reduceSub, Int.reduceNeg, Int.cast_ofNat_Int]
  rw [nI_clamp (by omega), p1]
  refine ⟨vp_in_nI (by omega) (by decide), hK _ _ _ _ ?_⟩
  have hl' := bf_l (w := w) (d := d) (A := A) (J := J) (P := P) (G := G) (a := a) (Jm := Jm) (Pm := Pm) (Q := fun r G' => r = none ∧ ∃ I' X', G' = (mc_put (bo_put G a I' A J X' P) (a + 1) Im Am Jm Xm Pm) ∧ bf_st I' X' ((mv_pl em (mv_al em ec) (q * 3 + l)).foldl (bf_e em rs) T) ∧ bf_kp I I' X X') hm hs hq hl hri hfit ((mv_pl em (mv_al em ec) (q * 3 + l)).length + 1) 0 T I X none none (by omega) (by omega) hS hX
  simp only [Nat.add_zero, List.drop_zero] at hl'
  exact hl' (fun I' X' t1 t2 => ⟨trivial, I', X', rfl, t1, t2⟩)

