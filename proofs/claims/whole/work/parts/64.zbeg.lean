/-! PairSearch and ResidualSearch before their first use: machines that are null -/
/-- PairSearch, whatever its two machines are -/
def ps_is0 (G : rz_G) (a : Nat) (I : Nat → Int32) (A : Nat → Nat → Int32) (J : Nat → Nat → Int64) (X : Nat → List Nat) (v0 v1 : Value) : Prop := (∀ o, 0 < o → o < 304 → G (a + o) = some (ps_cell a I A J X (fun _ => 0) o)) ∧ G a = some (.inr (4, [v0, v1, .int (I 0), .ref (a + 1), .ref (a + 2), .ref (a + 3), .ref (a + 4), .ref (a + 5), .ref (a + 6), .ref (a + 7), .int (I 1), .ref (a + 8), .ref (a + 9), .ref (a + 10), .ref (a + 11), .int (I 2), .ref (a + 12), .ref (a + 14)]))
theorem ps_cellP {a : Nat} {I : Nat → Int32} {A : Nat → Nat → Int32} {J : Nat → Nat → Int64} {X : Nat → List Nat} {P P' : Nat → Nat} : ∀ o, 0 < o → ps_cell a I A J X P o = ps_cell a I A J X P' o := by
  intro o ho
  match o, ho with
  | 1, _ => rfl
  | 2, _ => rfl
  | 3, _ => rfl
  | 4, _ => rfl
  | 5, _ => rfl
  | 6, _ => rfl
  | 7, _ => rfl
  | 8, _ => rfl
  | 9, _ => rfl
  | 10, _ => rfl
  | 11, _ => rfl
  | 12, _ => rfl
  | 13, _ => rfl
  | 14, _ => rfl
  | 15, _ => rfl
  | n + 16, _ => rfl
theorem ps_is0_of {G : rz_G} {a : Nat} {I : Nat → Int32} {A : Nat → Nat → Int32} {J : Nat → Nat → Int64} {X : Nat → List Nat} {P : Nat → Nat} (h : ps_is G a I A J X P) : ps_is0 G a I A J X (.ref (P 0)) (.ref (P 1)) := ⟨fun o h0 h1 => by rw [← ps_cellP (P := P) o h0]; exact h o h1, h 0 (by decide)⟩
set_option maxRecDepth 100000 in
set_option maxHeartbeats 4000000 in
theorem c_Pair_begin0 {w : rz_w} {d : Nat} {G : rz_G} {a : Nat} {I : Nat → Int32} {A : Nat → Nat → Int32} {J : Nat → Nat → Int64} {X : Nat → List Nat} {v0 v1 : Value} (hp : ps_is0 G a I A J X v0 v1) (ml mr : Nat) : rz_C w (d + 1) 0 0 y_Pair_begin m_Pair_begin [.ref a, .ref ml, .ref mr] G (fun r G' => r = none ∧ ∃ I' A' P', G' = ps_put G a I' A' J X P' ∧ I' 0 = nI 0 ∧ I' 1 = nI 0 ∧ I' 2 = -1 ∧ A' 8 0 = nI 0 ∧ A' 5 0 = nI 0 ∧ (∀ i, i < 36 → A' 3 i = nI 0) ∧ P' 0 = ml ∧ P' 1 = mr) := by
  refine rz_enter' [some (.ref a), some (.ref ml), some (.ref mr)] (by decide +kernel) rfl rfl (Nat.le_of_ble_eq_true rfl) rfl ?_
  refine rz_blk' [(.aload_n 0, 1, 0, 0), (.aload_n 1, 1, 0, 0), (.putfield 59, 3, 4, 0)] (by decide +kernel) (Nat.le_refl _) (Nat.le_refl _) (fun K R hK hR => ?_)
  simp only [List.length_cons, List.length_nil, Nat.reduceLT, rf_4_0, ↓rx_aload_n0, ↓rx_aload_n1, ↓rx_nil, ↓rx_putfield, ↓ry_lr0s, ↓ry_lr0z, ↓ry_obu, ↓ry_vr, true_and, ↓rh_ob hp.2, rz_set, rz_nol, rz_clr, List.set_cons_zero, List.set_cons_succ, rz_tr, Nat.reduceAdd, Int.reduceAdd, Int.reduceToNat, Int.reduceSub, Int.reduceNeg, Int.cast_ofNat_Int]
  refine hK _ _ _ _ ?_
  have e1 : rz_up G a (.inr (4, [.ref ml, v1, .int (I 0), .ref (a + 1), .ref (a + 2), .ref (a + 3), .ref (a + 4), .ref (a + 5), .ref (a + 6), .ref (a + 7), .int (I 1), .ref (a + 8), .ref (a + 9), .ref (a + 10), .ref (a + 11), .int (I 2), .ref (a + 12), .ref (a + 14)])) a = some (.inr (4, [.ref ml, v1, .int (I 0), .ref (a + 1), .ref (a + 2), .ref (a + 3), .ref (a + 4), .ref (a + 5), .ref (a + 6), .ref (a + 7), .int (I 1), .ref (a + 8), .ref (a + 9), .ref (a + 10), .ref (a + 11), .int (I 2), .ref (a + 12), .ref (a + 14)])) := rz_up_s _ _ _
  refine rz_blk' [(.aload_n 0, 1, 0, 0), (.aload_n 2, 1, 0, 0), (.putfield 63, 3, 4, 1)] (by decide +kernel) (Nat.le_refl _) (Nat.le_refl _) (fun K R hK hR => ?_)
  simp only [List.length_cons, List.length_nil, Nat.reduceLT, rf_4_1, ↓rx_aload_n0, ↓rx_aload_n2, ↓rx_nil, ↓rx_putfield, ↓ry_lr0s, ↓ry_lr0z, ↓ry_obu, ↓ry_vr, true_and, ↓rh_ob e1, rz_set, rz_nol, rz_clr, List.set_cons_zero, List.set_cons_succ, rz_tr, Nat.reduceAdd, Int.reduceAdd, Int.reduceToNat, Int.reduceSub, Int.reduceNeg, Int.cast_ofNat_Int]
  refine hK _ _ _ _ ?_
  have e2 : rz_up (rz_up G a (.inr (4, [.ref ml, v1, .int (I 0), .ref (a + 1), .ref (a + 2), .ref (a + 3), .ref (a + 4), .ref (a + 5), .ref (a + 6), .ref (a + 7), .int (I 1), .ref (a + 8), .ref (a + 9), .ref (a + 10), .ref (a + 11), .int (I 2), .ref (a + 12), .ref (a + 14)]))) a (.inr (4, [.ref ml, .ref mr, .int (I 0), .ref (a + 1), .ref (a + 2), .ref (a + 3), .ref (a + 4), .ref (a + 5), .ref (a + 6), .ref (a + 7), .int (I 1), .ref (a + 8), .ref (a + 9), .ref (a + 10), .ref (a + 11), .int (I 2), .ref (a + 12), .ref (a + 14)])) = ps_put G a I A J X (va_up (va_up (fun _ => 0) 0 ml) 1 mr) := by
    rw [rz_up_up]
    funext x
    by_cases c : x = a
    · subst c
      rw [rz_up_s]
      have := ps_at0 (G := G) (a := x) (I := I) (A := A) (J := J) (X := X) (P := va_up (va_up (fun _ => 0) 0 ml) 1 mr)
      rw [this]
      simp [ps_fs, va_up]
    · rw [rz_up_n _ _ c]
      by_cases c2 : x < a ∨ a + 304 ≤ x
      · rw [ps_out c2]
      · obtain ⟨o, rfl⟩ : ∃ o, x = a + o := ⟨x - a, by omega⟩
        rw [ps_at (by omega), hp.1 o (by omega) (by omega), ps_cellP o (by omega)]
  rw [e2]
  refine rz_blk' [(.aload_n 0, 1, 0, 0), (.iconst 0, 1, 0, 0), (.putfield 66, 3, 4, 2)] (by decide +kernel) (Nat.le_refl _) (Nat.le_refl _) (fun K R hK hR => ?_)
  simp only [List.length_cons, List.length_nil, Nat.reduceLT, rf_4_2, rw_c0, ↓rx_aload_n0, ↓rx_iconst, ↓rx_nil, ↓rx_putfield, ↓ry_lr0s, ↓ry_lr0z, ↓ry_obu, ↓ry_vr, true_and, ↓ps_ob, ↓ps_i1, ↓ps_n1, ↓ps_i2, ↓ps_n2, ↓ps_i3, ↓ps_n3, ↓ps_r4, ↓ps_r5, ↓ps_i6, ↓ps_n6, ↓ps_i7, ↓ps_n7, ↓ps_i8, ↓ps_n8, ↓ps_i9, ↓ps_n9, ↓ps_i10, ↓ps_n10, ↓ps_i11, ↓ps_n11, ps_u2, rz_set, rz_nol, rz_clr, List.set_cons_zero, List.set_cons_succ, rz_tr, Nat.reduceAdd, Int.reduceAdd, Int.reduceToNat, Int.reduceSub, Int.reduceNeg, Int.cast_ofNat_Int]
  refine hK _ _ _ _ ?_
  refine rz_blk' [(.aload_n 0, 1, 0, 0), (.iconst 0, 1, 0, 0), (.putfield 70, 3, 4, 10)] (by decide +kernel) (Nat.le_refl _) (Nat.le_refl _) (fun K R hK hR => ?_)
  simp only [List.length_cons, List.length_nil, Nat.reduceLT, rf_4_10, rw_c0, ↓rx_aload_n0, ↓rx_iconst, ↓rx_nil, ↓rx_putfield, ↓ry_lr0s, ↓ry_lr0z, ↓ry_obu, ↓ry_vr, true_and, ↓ps_ob, ↓ps_i1, ↓ps_n1, ↓ps_i2, ↓ps_n2, ↓ps_i3, ↓ps_n3, ↓ps_r4, ↓ps_r5, ↓ps_i6, ↓ps_n6, ↓ps_i7, ↓ps_n7, ↓ps_i8, ↓ps_n8, ↓ps_i9, ↓ps_n9, ↓ps_i10, ↓ps_n10, ↓ps_i11, ↓ps_n11, ps_u10, rz_set, rz_nol, rz_clr, List.set_cons_zero, List.set_cons_succ, rz_tr, Nat.reduceAdd, Int.reduceAdd, Int.reduceToNat, Int.reduceSub, Int.reduceNeg, Int.cast_ofNat_Int]
  refine hK _ _ _ _ ?_
  refine rz_blk' [(.aload_n 0, 1, 0, 0), (.getfield 46, 3, 4, 14), (.iconst 0, 1, 0, 0), (.iconst 0, 1, 0, 0), (.iastore, 1, 0, 0)] (by decide +kernel) (Nat.le_refl _) (Nat.le_refl _) (fun K R hK hR => ?_)
  simp only [rw_c0, ↓rx_aload_n0, ↓rx_getfield, ↓rx_iastore, ↓rx_iconst, ↓rx_nil, ↓ry_fvs, ↓ry_fvz, ↓ry_iau, ↓ry_lr0s, ↓ry_lr0z, ↓ry_obu, ↓ry_r1, ↓ry_rii, true_and, ↓ps_ob, ↓ps_i1, ↓ps_n1, ↓ps_i2, ↓ps_n2, ↓ps_i3, ↓ps_n3, ↓ps_r4, ↓ps_r5, ↓ps_i6, ↓ps_n6, ↓ps_i7, ↓ps_n7, ↓ps_i8, ↓ps_n8, ↓ps_i9, ↓ps_n9, ↓ps_i10, ↓ps_n10, ↓ps_i11, ↓ps_n11, ps_a11, rz_set, rz_nol, rz_clr, List.set_cons_zero, List.set_cons_succ, rz_tr, Nat.reduceAdd, Int.reduceAdd, Int.reduceToNat, Int.reduceSub, Int.reduceNeg, Int.cast_ofNat_Int]
  refine ⟨vp_in_nI (by decide) (by decide), hK _ _ _ _ ?_⟩
  refine rz_blk' [(.aload_n 0, 1, 0, 0), (.getfield 37, 3, 4, 11), (.iconst 0, 1, 0, 0), (.iconst 0, 1, 0, 0), (.iastore, 1, 0, 0)] (by decide +kernel) (Nat.le_refl _) (Nat.le_refl _) (fun K R hK hR => ?_)
  simp only [rw_c0, ↓rx_aload_n0, ↓rx_getfield, ↓rx_iastore, ↓rx_iconst, ↓rx_nil, ↓ry_fvs, ↓ry_fvz, ↓ry_iau, ↓ry_lr0s, ↓ry_lr0z, ↓ry_obu, ↓ry_r1, ↓ry_rii, true_and, ↓ps_ob, ↓ps_i1, ↓ps_n1, ↓ps_i2, ↓ps_n2, ↓ps_i3, ↓ps_n3, ↓ps_r4, ↓ps_r5, ↓ps_i6, ↓ps_n6, ↓ps_i7, ↓ps_n7, ↓ps_i8, ↓ps_n8, ↓ps_i9, ↓ps_n9, ↓ps_i10, ↓ps_n10, ↓ps_i11, ↓ps_n11, ps_a8, rz_set, rz_nol, rz_clr, List.set_cons_zero, List.set_cons_succ, rz_tr, Nat.reduceAdd, Int.reduceAdd, Int.reduceToNat, Int.reduceSub, Int.reduceNeg, Int.cast_ofNat_Int]
  refine ⟨vp_in_nI (by decide) (by decide), hK _ _ _ _ ?_⟩
  refine rz_blk' [(.aload_n 0, 1, 0, 0), (.iconst (-1), 1, 0, 0), (.putfield 73, 3, 4, 15)] (by decide +kernel) (Nat.le_refl _) (Nat.le_refl _) (fun K R hK hR => ?_)
  simp only [List.length_cons, List.length_nil, Nat.reduceLT, rf_4_15, rw_cm1, ↓rx_aload_n0, ↓rx_iconst, ↓rx_nil, ↓rx_putfield, ↓ry_lr0s, ↓ry_lr0z, ↓ry_obu, ↓ry_vr, true_and, ↓ps_ob, ↓ps_i1, ↓ps_n1, ↓ps_i2, ↓ps_n2, ↓ps_i3, ↓ps_n3, ↓ps_r4, ↓ps_r5, ↓ps_i6, ↓ps_n6, ↓ps_i7, ↓ps_n7, ↓ps_i8, ↓ps_n8, ↓ps_i9, ↓ps_n9, ↓ps_i10, ↓ps_n10, ↓ps_i11, ↓ps_n11, ps_u15, rz_set, rz_nol, rz_clr, List.set_cons_zero, List.set_cons_succ, rz_tr, Nat.reduceAdd, Int.reduceAdd, Int.reduceToNat, Int.reduceSub, Int.reduceNeg, Int.cast_ofNat_Int]
  refine hK _ _ _ _ ?_
  refine rz_blk' [(.aload_n 0, 1, 0, 0), (.getfield 31, 3, 4, 8), (.iconst 0, 1, 0, 0)] (by decide +kernel) (Nat.le_refl _) (Nat.le_refl _) (fun K R hK hR => ?_)
  simp only [rw_c0, ↓rx_aload_n0, ↓rx_getfield, ↓rx_iconst, ↓rx_nil, ↓ry_fvs, ↓ry_fvz, ↓ry_lr0s, ↓ry_lr0z, ↓ry_obu, ↓ry_r1, ↓ps_ob, ↓ps_i1, ↓ps_n1, ↓ps_i2, ↓ps_n2, ↓ps_i3, ↓ps_n3, ↓ps_r4, ↓ps_r5, ↓ps_i6, ↓ps_n6, ↓ps_i7, ↓ps_n7, ↓ps_i8, ↓ps_n8, ↓ps_i9, ↓ps_n9, ↓ps_i10, ↓ps_n10, ↓ps_i11, ↓ps_n11, rz_set, rz_nol, rz_clr, List.set_cons_zero, List.set_cons_succ, rz_tr, Nat.reduceAdd, Int.reduceAdd, Int.reduceToNat, Int.reduceSub, Int.reduceNeg, Int.cast_ofNat_Int]
  refine hK _ _ _ _ ?_
  have e0 : (nI 0).toNatClampNeg = 0 := nI_clamp (by decide)
  rw [e0]
  refine rz_cS (As := [.ref (a + 6), .int (nI 0)]) (S := []) l_Pair_76 (by decide +kernel) rfl (Nat.le_of_ble_eq_true rfl) (Nat.le_refl _) (Nat.le_refl _) (c_Arr_fill (ps_at (o := 6) (by decide)) (by decide)) (fun r G' hq => ?_)
  obtain ⟨rfl, rfl⟩ := hq
  rw [ps_a6]
  simp only [Option.toList, List.nil_append]
  refine rz_blk' [(.return_, 1, 0, 0)] (by decide +kernel) (Nat.le_refl _) (Nat.le_refl _) (fun K R hK hR => ?_)
  simp only [↓rx_nil, ↓rx_return_, ↓ps_ob, ↓ps_i1, ↓ps_n1, ↓ps_i2, ↓ps_n2, ↓ps_i3, ↓ps_n3, ↓ps_r4, ↓ps_r5, ↓ps_i6, ↓ps_n6, ↓ps_i7, ↓ps_n7, ↓ps_i8, ↓ps_n8, ↓ps_i9, ↓ps_n9, ↓ps_i10, ↓ps_n10, ↓ps_i11, ↓ps_n11, rz_set, rz_nol, rz_clr, List.set_cons_zero, List.set_cons_succ, rz_tr, Nat.reduceAdd, Int.reduceAdd, Int.reduceToNat, Int.reduceSub, Int.reduceNeg, Int.cast_ofNat_Int]
  refine hR _ _ (rz_nb_i (by decide)) ⟨rfl, _, _, _, rfl, ?_, ?_, ?_, ?_, ?_, ?_, ?_, ?_⟩
  · simp [upd]
  · simp [upd]
  · simp [upd]
  · simp [va_up, upd]
  · simp [va_up, upd]
  · intro i hi; simp [va_up, hi]
  · simp [va_up]
  · simp [va_up]

def rs_is0 (G : rz_G) (a : Nat) (I : Nat → Int32) (A : Nat → Nat → Int32) (J : Nat → Nat → Int64) (X : Nat → List Nat) (v0 : Value) : Prop := (∀ o, 0 < o → o < 13 → G (a + o) = some (rs_cell a I A J X (fun _ => 0) o)) ∧ G a = some (.inr (6, [.ref (a + 1), .ref (a + 4), .ref (a + 5), .ref (a + 7), .ref (a + 9), .ref (a + 11), v0, .int (I 0), .int (I 1), .int (I 2)]))
theorem rs_cellP {a : Nat} {I : Nat → Int32} {A : Nat → Nat → Int32} {J : Nat → Nat → Int64} {X : Nat → List Nat} {P P' : Nat → Nat} : ∀ o, 0 < o → rs_cell a I A J X P o = rs_cell a I A J X P' o := by
  intro o ho
  match o, ho with
  | 1, _ => rfl
  | 2, _ => rfl
  | 3, _ => rfl
  | 4, _ => rfl
  | 5, _ => rfl
  | 6, _ => rfl
  | 7, _ => rfl
  | 8, _ => rfl
  | 9, _ => rfl
  | 10, _ => rfl
  | 11, _ => rfl
  | 12, _ => rfl
  | n + 13, _ => rfl
theorem rs_is0_of {G : rz_G} {a : Nat} {I : Nat → Int32} {A : Nat → Nat → Int32} {J : Nat → Nat → Int64} {X : Nat → List Nat} {P : Nat → Nat} (h : rs_is G a I A J X P) : rs_is0 G a I A J X (.ref (P 0)) := ⟨fun o h0 h1 => by rw [← rs_cellP (P := P) o h0]; exact h o h1, h 0 (by decide)⟩
set_option maxRecDepth 100000 in
set_option maxHeartbeats 4000000 in
/-- verdictOn(asked) -/
theorem c_Res_verdictOn0 {w : rz_w} {d : Nat} {G : rz_G} {a : Nat} {I : Nat → Int32} {A : Nat → Nat → Int32} {J : Nat → Nat → Int64} {X : Nat → List Nat} {v0 : Value} (hp : rs_is0 G a I A J X v0) {M1 : mc_S} {m : mv_T} {cl am bd0 : Nat} {S : rs_sT} (h1 : mc_at' G am a 13 M1 m cl) (h3 : mv_w3 m) (hS : rs_st I A J bd0 S) (hX : rs_xo X) :
    rz_C w (d + 6) 0 0 y_Res_verdictOn m_Res_verdictOn [.ref a, .ref am] G (fun r G' => r = some (.int (nI (rs_ver m cl))) ∧ ∃ I' A' J' X' S', G' = rs_put G a I' A' J' X' (va_up (fun _ => 0) 0 am) ∧ rs_xo X' ∧ rs_st I' A' J' (rs_bd m cl) S') := by
  have hb : rs_bd m cl ≤ 108 := by
    have h6 := hp_cnt6 (mv_al m cl)
    have h3' := mv_lg3 (cl := cl) (al := mv_al m cl) h3
    simp only [rs_bd]
    have := Nat.mul_le_mul (Nat.mul_le_mul h6 h6) h3'
    omega
  have h6 := hp_cnt6 (mv_al m cl)
  have hlg := mv_lg3 (cl := cl) (al := mv_al m cl) h3
  have hal := mv_al64 h1.2.1
  have h1' : mc_at' G (va_up (fun _ => 0) 0 am 0) a 13 M1 m cl := by rw [va_up_self]; exact h1
  have ob : ∀ I A J X P, (rs_put G a I A J X P) am = some (.inr (2, mc_fs am M1.1 M1.2.2.2.2)) := fun I A J X P => rs_mc h1 0 (by decide)
  have i1 := fun I A J X P => c_Mach_longestWord (w := w) (d := d + 4) (G := rs_put G a I A J X P) (a := am) (I := M1.1) (A := M1.2.1) (J := M1.2.2.1) (X := M1.2.2.2.1) (P := M1.2.2.2.2) h1.2.1 h1.2.2.1
  simp only [mc_id (rs_mc h1)] at i1
  obtain ⟨s1, s2, s3, s4⟩ := id hS
  refine rz_enter' [some (.ref a), some (.ref am), none, none, none, none, none] (by decide +kernel) rfl rfl (Nat.le_of_ble_eq_true rfl) rfl ?_
  refine rz_blk' [(.aload_n 0, 1, 0, 0), (.aload_n 1, 1, 0, 0), (.putfield 42, 3, 6, 6)] (by decide +kernel) (Nat.le_refl _) (Nat.le_refl _) (fun K R hK hR => ?_)
  simp only [List.length_cons, List.length_nil, Nat.reduceLT, rf_6_6, ↓rx_aload_n0, ↓rx_aload_n1, ↓rx_nil, ↓rx_putfield, ↓ry_lr0s, ↓ry_lr0z, ↓ry_obu, ↓ry_vr, true_and, ↓rh_ob hp.2, rz_set, rz_nol, rz_clr, List.set_cons_zero, List.set_cons_succ, rz_tr, Nat.reduceAdd, Int.reduceAdd, Int.reduceToNat, Int.reduceSub, Int.reduceNeg, Int.cast_ofNat_Int]
  refine hK _ _ _ _ ?_
  have e2 : rz_up G a (.inr (6, [.ref (a + 1), .ref (a + 4), .ref (a + 5), .ref (a + 7), .ref (a + 9), .ref (a + 11), .ref am, .int (I 0), .int (I 1), .int (I 2)])) = rs_put G a I A J X (va_up (fun _ => 0) 0 am) := by
    funext x
    by_cases c : x = a
    · subst c
      rw [rz_up_s]
      have := rs_at0 (G := G) (a := x) (I := I) (A := A) (J := J) (X := X) (P := va_up (fun _ => 0) 0 am)
      rw [this]
      simp [rs_fs, va_up]
    · rw [rz_up_n _ _ c]
      by_cases c2 : x < a ∨ a + 13 ≤ x
      · rw [rs_out c2]
      · obtain ⟨o, rfl⟩ : ∃ o, x = a + o := ⟨x - a, by omega⟩
        rw [rs_at (by omega), hp.1 o (by omega) (by omega), rs_cellP o (by omega)]
  rw [e2]
  refine rz_blk' [(.aload_n 1, 1, 0, 0), (.getfield 46, 3, 2, 10)] (by decide +kernel) (Nat.le_refl _) (Nat.le_refl _) (fun K R hK hR => ?_)
  simp only [↓rx_aload_n1, ↓rx_getfield, ↓rx_nil, ↓ry_fvs, ↓ry_fvz, ↓ry_lr0s, ↓ry_lr0z, ↓ry_obu, ↓ry_r1, ↓rs_ob, ↓rs_l2, ↓rs_i3, ↓rs_n3, ↓rs_l4, ↓rs_ob1, ↓rh_ob (ob _ _ _ _ _), rz_set, rz_nol, rz_clr, List.set_cons_zero, List.set_cons_succ, rz_tr, Nat.reduceAdd, Int.reduceAdd, Int.reduceToNat, Int.reduceSub, Int.reduceNeg, Int.cast_ofNat_Int]
  rw [h1.2.2.1.2.1]
  refine hK _ _ _ _ ?_
  refine rz_cS (As := [.int (nI (mv_al m cl))]) (S := []) l_Res_52 (by decide +kernel) rfl (Nat.le_of_ble_eq_true rfl) (Nat.le_refl _) (Nat.le_refl _) (c_Int_bitCount hal) (fun r G' hr => ?_)
  obtain ⟨rfl, hg⟩ := hr
  have hg := hg.symm
  subst hg
  simp only [Option.toList, List.cons_append, List.nil_append]
  generalize hst : hp_cnt (mv_al m cl) = st at *
  refine rz_blk' [(.istore_n 2, 1, 0, 0)] (by decide +kernel) (Nat.le_refl _) (Nat.le_refl _) (fun K R hK hR => ?_)
  simp only [↓rx_istore_n2, ↓rx_nil, ↓ry_i1, ↓rs_ob, ↓rs_l2, ↓rs_i3, ↓rs_n3, ↓rs_l4, ↓rs_ob1, rz_set, rz_nol, rz_clr, List.set_cons_zero, List.set_cons_succ, rz_tr, Nat.reduceAdd, Int.reduceAdd, Int.reduceToNat, Int.reduceSub, Int.reduceNeg, Int.cast_ofNat_Int]
  refine hK _ _ _ _ ?_
  refine rz_blk' [(.aload_n 0, 1, 0, 0), (.iload_n 2, 1, 0, 0), (.iload_n 2, 1, 0, 0), (.imul, 1, 0, 0), (.aload_n 1, 1, 0, 0)] (by decide +kernel) (Nat.le_refl _) (Nat.le_refl _) (fun K R hK hR => ?_)
  simp only [↓rx_aload_n0, ↓rx_aload_n1, ↓rx_iload_n2, ↓rx_imul, ↓rx_nil, ↓ry_i2, ↓ry_li0s, ↓ry_li0z, ↓ry_lr0s, ↓ry_lr0z, ↓rs_ob, ↓rs_l2, ↓rs_i3, ↓rs_n3, ↓rs_l4, ↓rs_ob1, pk_mul, rz_set, rz_nol, rz_clr, List.set_cons_zero, List.set_cons_succ, rz_tr, Nat.reduceAdd, Int.reduceAdd, Int.reduceToNat, Int.reduceSub, Int.reduceNeg, Int.cast_ofNat_Int]
  refine hK _ _ _ _ ?_
  refine rz_cV (As := []) (b := am) (S := [.int (nI (st * st)), .ref a]) l_Res_58 (by decide +kernel) rfl (ob _ _ _ _ _) rfl (Nat.le_of_ble_eq_true rfl) (Nat.le_refl _) (Nat.le_refl _) (i1 _ _ _ _ _) (fun r G' hr => ?_)
  obtain ⟨rfl, hg⟩ := hr
  have hg := hg.symm
  subst hg
  simp only [Option.toList, List.cons_append, List.nil_append]
  refine rz_blk' [(.imul, 1, 0, 0), (.putfield 62, 3, 6, 7)] (by decide +kernel) (Nat.le_refl _) (Nat.le_refl _) (fun K R hK hR => ?_)
  simp only [List.length_cons, List.length_nil, Nat.reduceLT, rf_6_7, ↓rx_imul, ↓rx_nil, ↓rx_putfield, ↓ry_i2, ↓ry_obu, ↓ry_vr, true_and, ↓rs_ob, ↓rs_l2, ↓rs_i3, ↓rs_n3, ↓rs_l4, ↓rs_ob1, pk_mul, rs_u7, rz_set, rz_nol, rz_clr, List.set_cons_zero, List.set_cons_succ, rz_tr, Nat.reduceAdd, Int.reduceAdd, Int.reduceToNat, Int.reduceSub, Int.reduceNeg, Int.cast_ofNat_Int]
  have ebd : st * st * mv_lg m cl (mv_al m cl) = rs_bd m cl := by simp only [rs_bd, hst]
  rw [ebd]
  refine hK _ _ _ _ ?_
  refine rz_blk' [(.aload_n 0, 1, 0, 0), (.iconst 0, 1, 0, 0), (.putfield 65, 3, 6, 8)] (by decide +kernel) (Nat.le_refl _) (Nat.le_refl _) (fun K R hK hR => ?_)
  simp only [List.length_cons, List.length_nil, Nat.reduceLT, rf_6_8, rf_6_8t, rw_c0, ↓rx_aload_n0, ↓rx_iconst, ↓rx_nil, ↓rx_putfield, ↓ry_lr0s, ↓ry_lr0z, ↓ry_obu, ↓ry_vr, true_and, ↓rs_ob, ↓rs_l2, ↓rs_i3, ↓rs_n3, ↓rs_l4, ↓rs_ob1, rs_u8, rf_6_8, rz_set, rz_nol, rz_clr, List.set_cons_zero, List.set_cons_succ, rz_tr, Nat.reduceAdd, Int.reduceAdd, Int.reduceToNat, Int.reduceSub, Int.reduceNeg, Int.cast_ofNat_Int]
  refine hK _ _ _ _ ?_
  refine rz_blk' [(.aload_n 0, 1, 0, 0), (.iconst 0, 1, 0, 0), (.putfield 69, 3, 6, 9)] (by decide +kernel) (Nat.le_refl _) (Nat.le_refl _) (fun K R hK hR => ?_)
  simp only [List.length_cons, List.length_nil, Nat.reduceLT, rf_6_9, rf_6_9t, rw_c0, ↓rx_aload_n0, ↓rx_iconst, ↓rx_nil, ↓rx_putfield, ↓ry_lr0s, ↓ry_lr0z, ↓ry_obu, ↓ry_vr, true_and, ↓rs_ob, ↓rs_l2, ↓rs_i3, ↓rs_n3, ↓rs_l4, ↓rs_ob1, rs_u9, rf_6_9, rz_set, rz_nol, rz_clr, List.set_cons_zero, List.set_cons_succ, rz_tr, Nat.reduceAdd, Int.reduceAdd, Int.reduceToNat, Int.reduceSub, Int.reduceNeg, Int.cast_ofNat_Int]
  refine hK _ _ _ _ ?_
  generalize hI2 : upd (upd (upd I 0 _) 1 _) 2 _ = I2
  have e0 : I2 0 = nI (rs_bd m cl) := by rw [← hI2, pk_un (by decide), pk_un (by decide), pk_us]
  have e1 : I2 1 = rz_b false := by rw [← hI2, pk_un (by decide), pk_us]; rfl
  have e2 : I2 2 = rz_b false := by rw [← hI2, pk_us]; rfl
  have e3 : I2 3 = I 3 := by rw [← hI2, pk_un (by decide), pk_un (by decide), pk_un (by decide)]
  have hr2 : rs_rw I2 A J S.1 := ⟨by rw [e3]; exact s1.1, s1.2⟩
  refine rz_blk' [(.aload_n 0, 1, 0, 0), (.getfield 14, 3, 6, 0)] (by decide +kernel) (Nat.le_refl _) (Nat.le_refl _) (fun K R hK hR => ?_)
  simp only [↓rx_aload_n0, ↓rx_getfield, ↓rx_nil, ↓ry_fvs, ↓ry_fvz, ↓ry_lr0s, ↓ry_lr0z, ↓ry_obu, ↓ry_r1, ↓rs_ob, ↓rs_l2, ↓rs_i3, ↓rs_n3, ↓rs_l4, ↓rs_ob1, rz_set, rz_nol, rz_clr, List.set_cons_zero, List.set_cons_succ, rz_tr, Nat.reduceAdd, Int.reduceAdd, Int.reduceToNat, Int.reduceSub, Int.reduceNeg, Int.cast_ofNat_Int]
  refine hK _ _ _ _ ?_
  refine rz_cV (As := []) (b := a + 1) (S := []) l_Res_72 (by decide +kernel) rfl (rs_at (o := 1) (by decide)) rfl (Nat.le_of_ble_eq_true rfl) (Nat.le_refl _) (Nat.le_refl _) (c_Rows_clear (rs_rw_is hr2)) (fun r G' hr => ?_)
  obtain ⟨rfl, hrw, hfr⟩ := hr
  simp only [Option.toList, List.nil_append]
  obtain ⟨A3, J3, hg, hr3⟩ := rs_rw_put (ps := []) (fun v hv => by simp at hv) hrw hfr
  subst hg
  generalize hI3 : upd I2 3 _ = I3 at hr3
  have f0 : I3 0 = nI (rs_bd m cl) := by rw [← hI3, pk_un (by decide), e0]
  have f1 : I3 1 = rz_b false := by rw [← hI3, pk_un (by decide), e1]
  have f2 : I3 2 = rz_b false := by rw [← hI3, pk_un (by decide), e2]
  have hgo : ∀ (I4 : Nat → Int32) (A4 : Nat → Nat → Int32) (J4 : Nat → Nat → Int64) (X4 : Nat → List Nat), rs_st I4 A4 J4 (rs_bd m cl) (rs_s0 m cl) → rs_xo X4 → rz_T w (d + 6) 0 0 m_Res_verdictOn 0 0 66 [some (.ref a), some (.ref am), some (.int (nI st)), none, none, none, none] [] (rs_put G a I4 A4 J4 X4 (va_up (fun _ => 0) 0 am)) (fun r G' => r = some (.int (nI (rs_ver m cl))) ∧ ∃ I' A' J' X' S', G' = rs_put G a I' A' J' X' (va_up (fun _ => 0) 0 am) ∧ rs_xo X' ∧ rs_st I' A' J' (rs_bd m cl) S') := by
    intro I4 A4 J4 X4 hS4 hX4
    refine rz_blk' [(.iconst 0, 1, 0, 0), (.istore_n 3, 1, 0, 0)] (by decide +kernel) (Nat.le_refl _) (Nat.le_refl _) (fun K R hK hR => ?_)
    simp only [rw_c0, ↓rx_iconst, ↓rx_istore_n3, ↓rx_nil, ↓ry_i1, ↓rs_ob, ↓rs_l2, ↓rs_i3, ↓rs_n3, ↓rs_l4, ↓rs_ob1, rz_set, rz_nol, rz_clr, List.set_cons_zero, List.set_cons_succ, rz_tr, Nat.reduceAdd, Int.reduceAdd, Int.reduceToNat, Int.reduceSub, Int.reduceNeg, Int.cast_ofNat_Int]
    refine hK _ _ _ _ ?_
    refine rz_blk' [(.iconst 0, 1, 0, 0), (.istore 4, 2, 0, 0)] (by decide +kernel) (Nat.le_refl _) (Nat.le_refl _) (fun K R hK hR => ?_)
    simp only [rw_c0, ↓rx_iconst, ↓rx_istore, ↓rx_nil, ↓ry_i1, ↓rs_ob, ↓rs_l2, ↓rs_i3, ↓rs_n3, ↓rs_l4, ↓rs_ob1, rz_set, rz_nol, rz_clr, List.set_cons_zero, List.set_cons_succ, rz_tr, Nat.reduceAdd, Int.reduceAdd, Int.reduceToNat, Int.reduceSub, Int.reduceNeg, Int.cast_ofNat_Int]
    refine hK _ _ _ _ (rs_ve_o h1' h3 hb 3001 0 0 (rs_s0 m cl) I4 A4 J4 X4 none none rfl (Nat.zero_le _) hS4 hX4 (fun I5 A5 J5 X5 hX5 hS5 => ?_))
    obtain ⟨S5, hS5⟩ := hS5
    exact ⟨rfl, I5, A5, J5, X5, S5, rfl, hX5, hS5⟩
  refine rz_blk' [(.iload_n 2, 1, 0, 0), (.ifCond .le 23, 3, 0, 0), (.aload_n 0, 1, 0, 0), (.getfield 36, 3, 6, 4)] (by decide +kernel) (Nat.le_refl _) (Nat.le_refl _) (fun K R hK hR => ?_)
  simp only [↓rx_aload_n0, ↓rx_getfield, ↓rx_ifCond_le, ↓rx_iload_n2, ↓rx_nil, ↓ry_fvs, ↓ry_fvz, ↓ry_i1, ↓ry_li0s, ↓ry_li0z, ↓ry_lr0s, ↓ry_lr0z, ↓ry_obu, ↓ry_r1, ↓rs_ob, ↓rs_l2, ↓rs_i3, ↓rs_n3, ↓rs_l4, ↓rs_ob1, rz_set, rz_nol, rz_clr, List.set_cons_zero, List.set_cons_succ, rz_tr, Nat.reduceAdd, Int.reduceAdd, Int.reduceToNat, Int.reduceSub, Int.reduceNeg, Int.cast_ofNat_Int]
  rw [hp_z, nI_leI (by omega) (by omega)]
  refine ⟨fun q => hK _ _ _ _ (hgo _ _ _ _ ?_ hX), fun q => hK _ _ _ _ ?_⟩
  · have : rs_s0 m cl = ([], false, false) := by simp only [rs_s0, hst]; rw [if_neg (by omega)]
    rw [this]
    exact ⟨hr3, f0, f1, f2⟩
  refine rz_cV (As := []) (b := a + 9) (S := []) l_Res_75 (by decide +kernel) rfl (rs_wi9 (hX 2 (by decide))).1 rfl (Nat.le_of_ble_eq_true rfl) (Nat.le_refl _) (Nat.le_refl _) (c_Word_clear (rs_wi9 (hX 2 (by decide)))) (fun r G' hr => ?_)
  obtain ⟨rfl, rfl⟩ := hr
  rw [rs_wp9]
  simp only [Option.toList, List.nil_append]
  have o3 : wd_ok 8 (va_up X 2 [] 3) := by rw [va_up_ne _ _ (by decide)]; exact hX 3 (by decide)
  refine rz_blk' [(.aload_n 0, 1, 0, 0), (.getfield 39, 3, 6, 5)] (by decide +kernel) (Nat.le_refl _) (Nat.le_refl _) (fun K R hK hR => ?_)
  simp only [↓rx_aload_n0, ↓rx_getfield, ↓rx_nil, ↓ry_fvs, ↓ry_fvz, ↓ry_lr0s, ↓ry_lr0z, ↓ry_obu, ↓ry_r1, ↓rs_ob, ↓rs_l2, ↓rs_i3, ↓rs_n3, ↓rs_l4, ↓rs_ob1, rz_set, rz_nol, rz_clr, List.set_cons_zero, List.set_cons_succ, rz_tr, Nat.reduceAdd, Int.reduceAdd, Int.reduceToNat, Int.reduceSub, Int.reduceNeg, Int.cast_ofNat_Int]
  refine hK _ _ _ _ ?_
  refine rz_cV (As := []) (b := a + 11) (S := []) l_Res_75 (by decide +kernel) rfl (rs_wi11 o3).1 rfl (Nat.le_of_ble_eq_true rfl) (Nat.le_refl _) (Nat.le_refl _) (c_Word_clear (rs_wi11 o3)) (fun r G' hr => ?_)
  obtain ⟨rfl, rfl⟩ := hr
  rw [rs_wp11]
  simp only [Option.toList, List.nil_append]
  generalize hX5 : va_up (va_up X 2 []) 3 [] = X5
  have y2 : X5 2 = [] := by rw [← hX5, va_up_ne _ _ (by decide), va_up_self]
  have y3 : X5 3 = [] := by rw [← hX5, va_up_self]
  have hX5o : rs_xo X5 := by
    intro j hj
    by_cases c3 : j = 3
    · rw [c3, y3]; exact wd_ok_nil (by decide)
    · by_cases c2 : j = 2
      · rw [c2, y2]; exact wd_ok_nil (by decide)
      · rw [← hX5, va_up_ne _ _ c3, va_up_ne _ _ c2]; exact hX j hj
  refine rz_blk' [(.aload_n 0, 1, 0, 0), (.iconst 0, 1, 0, 0), (.iconst 0, 1, 0, 0)] (by decide +kernel) (Nat.le_refl _) (Nat.le_refl _) (fun K R hK hR => ?_)
  simp only [rw_c0, ↓rx_aload_n0, ↓rx_iconst, ↓rx_nil, ↓ry_lr0s, ↓ry_lr0z, ↓rs_ob, ↓rs_l2, ↓rs_i3, ↓rs_n3, ↓rs_l4, ↓rs_ob1, rz_set, rz_nol, rz_clr, List.set_cons_zero, List.set_cons_succ, rz_tr, Nat.reduceAdd, Int.reduceAdd, Int.reduceToNat, Int.reduceSub, Int.reduceNeg, Int.cast_ofNat_Int]
  refine hK _ _ _ _ ?_
  refine rz_cV (As := [.int (nI 0), .int (nI 0)]) (b := a) (S := []) l_Res_76 (by decide +kernel) rfl rs_at0 rfl (Nat.le_of_ble_eq_true rfl) (Nat.le_refl _) (Nat.le_refl _) (c_Res_keep (tm := false) hr3 (hX5o 2 (by decide)) (hX5o 3 (by decide)) ⟨(by decide : 0 < 6), (by decide : 0 < 6), by rw [y2]; simp, by rw [y3]; simp, by rw [y2]; simp, by rw [y3]; simp⟩) (fun r G' hr => ?_)
  obtain ⟨rfl, I', A', J', rfl, g1, g2, g3, g4⟩ := hr
  simp only [Option.toList, List.nil_append]
  rw [y2, y3] at g1 g4
  refine hgo I' A' J' X5 ?_ hX5o
  have : rs_s0 m cl = ([(0, 0, [], [])], false, false) := by simp only [rs_s0, hst]; rw [if_pos (by omega)]
  rw [this]
  exact ⟨g1, g2.trans f0, g3.trans f1, g4⟩

