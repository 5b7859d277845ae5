/-! WriterDesk$ResidualSearch: follow -/
abbrev rs_sT : Type := List rs_nd × Bool × Bool
def rs_v (bd : Nat) (S : rs_sT) (n : rs_nd) : rs_sT := if bd < n.2.2.1.length ∨ bd < n.2.2.2.length then (S.1, true, S.2.2) else if S.2.2 then S else ((rs_k (S.1, S.2.2) n).1, S.2.1, (rs_k (S.1, S.2.2) n).2)
def rs_st (I : Nat → Int32) (A : Nat → Nat → Int32) (J : Nat → Nat → Int64) (bd : Nat) (S : rs_sT) : Prop := rs_rw I A J S.1 ∧ I 0 = nI bd ∧ I 1 = rz_b S.2.1 ∧ I 2 = rz_b S.2.2
def rs_go (m : mv_T) (u v : List Nat) (e f : Nat) : rs_nd := ((mv_e m e).2.2.1, (mv_e m f).2.2.1, (u ++ (mv_e m e).2.2.2).drop (wd_lcp (u ++ (mv_e m e).2.2.2) (v ++ (mv_e m f).2.2.2)), (v ++ (mv_e m f).2.2.2).drop (wd_lcp (u ++ (mv_e m e).2.2.2) (v ++ (mv_e m f).2.2.2)))
def rs_wr (X : Nat → List Nat) (u v : List Nat) : Prop := X 0 = u ∧ X 1 = v ∧ wd_ok 8 (X 2) ∧ wd_ok 8 (X 3)
def rs_bs (u : List Nat) : Prop := u.length ≤ 108 ∧ ∀ x ∈ u, x < 8
theorem rs_bs_ok {u : List Nat} (h : rs_bs u) : wd_ok 8 u := ⟨by have := h.1; omega, fun x hx => by have := h.2 x hx; omega, by decide⟩
set_option maxRecDepth 100000 in
set_option maxHeartbeats 4000000 in
/-- follow(leftEdge, rightEdge) -/
theorem c_Res_follow {w : rz_w} {d : Nat} {G : rz_G} {a : Nat} {I : Nat → Int32} {A : Nat → Nat → Int32} {J : Nat → Nat → Int64} {X : Nat → List Nat} {P : Nat → Nat} {M1 : mc_S} {m : mv_T} {cl e f bd : Nat} {S : rs_sT} {u v : List Nat} (h1 : mc_at' G (P 0) a 13 M1 m cl) (h3 : mv_w3 m) (he : e < m.2.1.length) (hf : f < m.2.1.length) (hS : rs_st I A J bd S) (hbd : bd ≤ 108) (hX : rs_wr X u v) (hu : rs_bs u) (hv : rs_bs v) :
    rz_C w (d + 4) 0 0 y_Res_follow m_Res_follow [.ref a, .int (nI e), .int (nI f)] (rs_put G a I A J X P) (fun r G' => r = none ∧ ∃ I' A' J' X', G' = rs_put G a I' A' J' X' P ∧ rs_st I' A' J' bd (rs_v bd S (rs_go m u v e f)) ∧ rs_wr X' u v) := by
  obtain ⟨-, hm1, hs1, ha1⟩ := id h1
  unfold mc_ap at ha1
  obtain ⟨x0, x1, x2, x3⟩ := id hX
  have o0 : wd_ok 8 (X 0) := by rw [x0]; exact rs_bs_ok hu
  have o1 : wd_ok 8 (X 1) := by rw [x1]; exact rs_bs_ok hv
  have n1 := hm1.2.2.2.2.1
  have e1 := (hm1.2.2.2.2.2.1 e he).2.2.2.1
  have e2 := (hm1.2.2.2.2.2.1 f hf).2.2.2.1
  rw [← mv_e_get he] at e1
  rw [← mv_e_get hf] at e2
  obtain ⟨le3, le8⟩ := h3.1 e he
  obtain ⟨lf3, lf8⟩ := h3.1 f hf
  refine rz_enter' [some (.ref a), some (.int (nI e)), some (.int (nI f)), none] (by decide +kernel) rfl rfl (Nat.le_of_ble_eq_true rfl) rfl ?_
  refine rz_blk' [(.aload_n 0, 1, 0, 0), (.getfield 36, 3, 6, 4), (.aload_n 0, 1, 0, 0), (.getfield 29, 3, 6, 2)] (by decide +kernel) (Nat.le_refl _) (Nat.le_refl _) (fun K R hK hR => ?_)
  simp only [↓rx_aload_n0, ↓rx_getfield, ↓rx_nil, ↓ry_fvs, ↓ry_fvz, ↓ry_lr0s, ↓ry_lr0z, ↓ry_obu, ↓ry_r1, ↓rs_ob, ↓rs_l2, ↓rs_i3, ↓rs_n3, ↓rs_l4, ↓rs_ob1, rz_set, rz_nol, rz_clr, List.set_cons_zero, List.set_cons_succ, rz_tr, Nat.reduceAdd, Int.reduceAdd, Int.reduceToNat, Int.reduceSub, Int.reduceNeg, Int.cast_ofNat_Int]
  refine hK _ _ _ _ ?_
  refine rz_cV (As := [.ref (a + 5)]) (b := a + 9) (S := []) l_Res_108 (by decide +kernel) rfl (rs_wi9 x2).1 rfl (Nat.le_of_ble_eq_true rfl) (Nat.le_refl _) (Nat.le_refl _) (c_Word_copy (rs_wi9 x2) (rs_wi5 o0) (by omega)) (fun r G' hq => ?_)
  obtain ⟨rfl, rfl⟩ := hq
  rw [rs_wp9, if_pos (by have := o0.1; omega), x0]
  simp only [Option.toList, List.nil_append]
  generalize hX1 : va_up X 2 u = X1
  have t0 : X1 0 = u := by rw [← hX1, va_up_ne _ _ (by decide), x0]
  have t1 : X1 1 = v := by rw [← hX1, va_up_ne _ _ (by decide), x1]
  have t2 : X1 2 = u := by rw [← hX1, va_up_self]
  have t3 : wd_ok 8 (X1 3) := by rw [← hX1, va_up_ne _ _ (by decide)]; exact x3
  have q1 : wd_ok 8 (X1 1) := by rw [t1]; exact rs_bs_ok hv
  refine rz_blk' [(.aload_n 0, 1, 0, 0), (.getfield 39, 3, 6, 5), (.aload_n 0, 1, 0, 0), (.getfield 33, 3, 6, 3)] (by decide +kernel) (Nat.le_refl _) (Nat.le_refl _) (fun K R hK hR => ?_)
  simp only [↓rx_aload_n0, ↓rx_getfield, ↓rx_nil, ↓ry_fvs, ↓ry_fvz, ↓ry_lr0s, ↓ry_lr0z, ↓ry_obu, ↓ry_r1, ↓rs_ob, ↓rs_l2, ↓rs_i3, ↓rs_n3, ↓rs_l4, ↓rs_ob1, rz_set, rz_nol, rz_clr, List.set_cons_zero, List.set_cons_succ, rz_tr, Nat.reduceAdd, Int.reduceAdd, Int.reduceToNat, Int.reduceSub, Int.reduceNeg, Int.cast_ofNat_Int]
  refine hK _ _ _ _ ?_
  refine rz_cV (As := [.ref (a + 7)]) (b := a + 11) (S := []) l_Res_108 (by decide +kernel) rfl (rs_wi11 t3).1 rfl (Nat.le_of_ble_eq_true rfl) (Nat.le_refl _) (Nat.le_refl _) (c_Word_copy (rs_wi11 t3) (rs_wi7 q1) (by omega)) (fun r G' hq => ?_)
  obtain ⟨rfl, rfl⟩ := hq
  rw [rs_wp11, if_pos (by have := q1.1; omega), t1]
  simp only [Option.toList, List.nil_append]
  generalize hX2 : va_up X1 3 v = X2
  have s0 : X2 0 = u := by rw [← hX2, va_up_ne _ _ (by decide), t0]
  have s1 : X2 1 = v := by rw [← hX2, va_up_ne _ _ (by decide), t1]
  have s2 : X2 2 = u := by rw [← hX2, va_up_ne _ _ (by decide), t2]
  have s3 : X2 3 = v := by rw [← hX2, va_up_self]
  have p2 : wd_ok 8 (X2 2) := by rw [s2]; exact rs_bs_ok hu
  have hmc : ∀ I A J X, mc_is (rs_put G a I A J X P) (P 0) M1.1 M1.2.1 M1.2.2.1 M1.2.2.2.1 M1.2.2.2.2 := fun I A J X => rs_mc h1
  have ob : ∀ I A J X, (rs_put G a I A J X P) (P 0) = some (.inr (2, mc_fs (P 0) M1.1 M1.2.2.2.2)) := fun I A J X => hmc I A J X 0 (by decide)
  have wr : ∀ I A J X, (rs_put G a I A J X P) (P 0 + 4) = some (.inl (4, 24, .inr (.inr (.inr (.inr (fun e => some (P 0 + 10 + 2 * e))))))) := fun I A J X => hmc I A J X 4 (by decide)
  have to : ∀ I A J X, (rs_put G a I A J X P) (P 0 + 3) = some (.inl (0, 24, .inl (M1.2.1 2))) := fun I A J X => hmc I A J X 3 (by decide)
  have kk1 : ∀ I A J X, wd_is (rs_put G a I A J X P) (P 0 + 10 + 2 * e) 3 (mv_e m e).2.2.2 := fun I A J X => by
    have := mc_is_wi (hmc I A J X) hm1.2.2.2.2.2.2.2.2.2.2.2.2 (show e < 30 by omega)
    rw [e1] at this; exact this
  have kk2 : ∀ I A J X, wd_is (rs_put G a I A J X P) (P 0 + 10 + 2 * f) 3 (mv_e m f).2.2.2 := fun I A J X => by
    have := mc_is_wi (hmc I A J X) hm1.2.2.2.2.2.2.2.2.2.2.2.2 (show f < 30 by omega)
    rw [e2] at this; exact this
  have hu1 := hu.1
  have hv1 := hv.1
  refine rz_blk' [(.aload_n 0, 1, 0, 0), (.getfield 36, 3, 6, 4), (.aload_n 0, 1, 0, 0), (.getfield 42, 3, 6, 6), (.getfield 112, 3, 2, 5), (.iload_n 1, 1, 0, 0), (.aaload, 1, 0, 0)] (by decide +kernel) (Nat.le_refl _) (Nat.le_refl _) (fun K R hK hR => ?_)
  simp only [Nat.reduceEqDiff, false_or, or_false, or_true, reduceIte, ↓rx_aaload, ↓rx_aload_n0, ↓rx_getfield, ↓rx_iload_n1, ↓rx_nil, ↓ry_fvs, ↓ry_fvz, ↓ry_li0s, ↓ry_li0z, ↓ry_lr0s, ↓ry_lr0z, ↓ry_obu, ↓ry_r1, ↓ry_ri, true_and, true_or, ↓rs_ob, ↓rs_l2, ↓rs_i3, ↓rs_n3, ↓rs_l4, ↓rs_ob1, ↓rh_ob (ob _ _ _ _), ↓rh_ra (wr _ _ _ _), va_rfs, rz_set, rz_nol, rz_clr, List.set_cons_zero, List.set_cons_succ, rz_tr, Nat.reduceAdd, Int.reduceAdd, Int.reduceToNat, Int.reduceSub, Int.reduceNeg, Int.cast_ofNat_Int]
  rw [nI_clamp (by omega)]
  refine ⟨vp_in_nI (by omega) (by decide), hK _ _ _ _ ?_⟩
  refine rz_cV (As := [.ref (P 0 + 10 + 2 * e)]) (b := a + 9) (S := []) l_Res_116 (by decide +kernel) rfl (rs_wi9 p2).1 rfl (Nat.le_of_ble_eq_true rfl) (Nat.le_refl _) (Nat.le_refl _) (c_Word_append (rs_wi9 p2) (kk1 _ _ _ _) (by omega) (by rw [s2]; omega)) (fun r G' hq => ?_)
  obtain ⟨rfl, rfl⟩ := hq
  rw [rs_wp9, s2]
  simp only [Option.toList, List.nil_append]
  generalize hX3 : va_up X2 2 _ = X3
  have v0 : X3 0 = u := by rw [← hX3, va_up_ne _ _ (by decide), s0]
  have v1 : X3 1 = v := by rw [← hX3, va_up_ne _ _ (by decide), s1]
  have v2 : X3 2 = u ++ (mv_e m e).2.2.2 := by rw [← hX3, va_up_self]
  have v3 : X3 3 = v := by rw [← hX3, va_up_ne _ _ (by decide), s3]
  have p3 : wd_ok 8 (X3 3) := by rw [v3]; exact rs_bs_ok hv
  refine rz_blk' [(.aload_n 0, 1, 0, 0), (.getfield 39, 3, 6, 5), (.aload_n 0, 1, 0, 0), (.getfield 42, 3, 6, 6), (.getfield 112, 3, 2, 5), (.iload_n 2, 1, 0, 0), (.aaload, 1, 0, 0)] (by decide +kernel) (Nat.le_refl _) (Nat.le_refl _) (fun K R hK hR => ?_)
  simp only [Nat.reduceEqDiff, false_or, or_false, or_true, reduceIte, ↓rx_aaload, ↓rx_aload_n0, ↓rx_getfield, ↓rx_iload_n2, ↓rx_nil, ↓ry_fvs, ↓ry_fvz, ↓ry_li0s, ↓ry_li0z, ↓ry_lr0s, ↓ry_lr0z, ↓ry_obu, ↓ry_r1, ↓ry_ri, true_and, true_or, ↓rs_ob, ↓rs_l2, ↓rs_i3, ↓rs_n3, ↓rs_l4, ↓rs_ob1, ↓rh_ob (ob _ _ _ _), ↓rh_ra (wr _ _ _ _), va_rfs, rz_set, rz_nol, rz_clr, List.set_cons_zero, List.set_cons_succ, rz_tr, Nat.reduceAdd, Int.reduceAdd, Int.reduceToNat, Int.reduceSub, Int.reduceNeg, Int.cast_ofNat_Int]
  rw [nI_clamp (by omega)]
  refine ⟨vp_in_nI (by omega) (by decide), hK _ _ _ _ ?_⟩
  refine rz_cV (As := [.ref (P 0 + 10 + 2 * f)]) (b := a + 11) (S := []) l_Res_116 (by decide +kernel) rfl (rs_wi11 p3).1 rfl (Nat.le_of_ble_eq_true rfl) (Nat.le_refl _) (Nat.le_refl _) (c_Word_append (rs_wi11 p3) (kk2 _ _ _ _) (by omega) (by rw [v3]; omega)) (fun r G' hq => ?_)
  obtain ⟨rfl, rfl⟩ := hq
  rw [rs_wp11, v3]
  simp only [Option.toList, List.nil_append]
  generalize hX4 : va_up X3 3 _ = X4
  generalize huu : u ++ (mv_e m e).2.2.2 = uu at *
  generalize hvv : v ++ (mv_e m f).2.2.2 = vv at *
  have z0 : X4 0 = u := by rw [← hX4, va_up_ne _ _ (by decide), v0]
  have z1 : X4 1 = v := by rw [← hX4, va_up_ne _ _ (by decide), v1]
  have z2 : X4 2 = uu := by rw [← hX4, va_up_ne _ _ (by decide), v2]
  have z3 : X4 3 = vv := by rw [← hX4, va_up_self]
  have uu8 : ∀ x ∈ uu, x < 8 := by
    rw [← huu]; intro x hx
    rcases List.mem_append.mp hx with z | z
    · exact hu.2 x z
    · exact le8 x z
  have vv8 : ∀ x ∈ vv, x < 8 := by
    rw [← hvv]; intro x hx
    rcases List.mem_append.mp hx with z | z
    · exact hv.2 x z
    · exact lf8 x z
  have uul : uu.length ≤ 111 := by rw [← huu]; simp; omega
  have vvl : vv.length ≤ 111 := by rw [← hvv]; simp; omega
  have y2 : wd_ok 8 (X4 2) := by rw [z2]; exact ⟨by omega, fun x hx => by have := uu8 x hx; omega, by decide⟩
  have y3 : wd_ok 8 (X4 3) := by rw [z3]; exact ⟨by omega, fun x hx => by have := vv8 x hx; omega, by decide⟩
  refine rz_blk' [(.aload_n 0, 1, 0, 0), (.getfield 36, 3, 6, 4), (.aload_n 0, 1, 0, 0), (.getfield 39, 3, 6, 5)] (by decide +kernel) (Nat.le_refl _) (Nat.le_refl _) (fun K R hK hR => ?_)
  simp only [↓rx_aload_n0, ↓rx_getfield, ↓rx_nil, ↓ry_fvs, ↓ry_fvz, ↓ry_lr0s, ↓ry_lr0z, ↓ry_obu, ↓ry_r1, ↓rs_ob, ↓rs_l2, ↓rs_i3, ↓rs_n3, ↓rs_l4, ↓rs_ob1, rz_set, rz_nol, rz_clr, List.set_cons_zero, List.set_cons_succ, rz_tr, Nat.reduceAdd, Int.reduceAdd, Int.reduceToNat, Int.reduceSub, Int.reduceNeg, Int.cast_ofNat_Int]
  refine hK _ _ _ _ ?_
  refine rz_cV (As := [.ref (a + 11)]) (b := a + 9) (S := []) l_Res_119 (by decide +kernel) rfl (rs_wi9 y2).1 rfl (Nat.le_of_ble_eq_true rfl) (Nat.le_refl _) (Nat.le_refl _) (c_Word_alikeWith (rs_wi9 y2) (rs_wi11 y3)) (fun r G' hq => ?_)
  obtain ⟨rfl, hg⟩ := hq
  have hg := hg.symm
  subst hg
  simp only [Option.toList, List.cons_append, List.nil_append]
  rw [z2, z3]
  have hl := wd_lcp_le uu vv
  generalize hk : wd_lcp uu vv = k at hl
  refine rz_blk' [(.istore_n 3, 1, 0, 0)] (by decide +kernel) (Nat.le_refl _) (Nat.le_refl _) (fun K R hK hR => ?_)
  simp only [↓rx_istore_n3, ↓rx_nil, ↓ry_i1, ↓rs_ob, ↓rs_l2, ↓rs_i3, ↓rs_n3, ↓rs_l4, ↓rs_ob1, rz_set, rz_nol, rz_clr, List.set_cons_zero, List.set_cons_succ, rz_tr, Nat.reduceAdd, Int.reduceAdd, Int.reduceToNat, Int.reduceSub, Int.reduceNeg, Int.cast_ofNat_Int]
  refine hK _ _ _ _ ?_
  refine rz_blk' [(.aload_n 0, 1, 0, 0), (.getfield 36, 3, 6, 4), (.iload_n 3, 1, 0, 0)] (by decide +kernel) (Nat.le_refl _) (Nat.le_refl _) (fun K R hK hR => ?_)
  simp only [↓rx_aload_n0, ↓rx_getfield, ↓rx_iload_n3, ↓rx_nil, ↓ry_fvs, ↓ry_fvz, ↓ry_li0s, ↓ry_li0z, ↓ry_lr0s, ↓ry_lr0z, ↓ry_obu, ↓ry_r1, ↓rs_ob, ↓rs_l2, ↓rs_i3, ↓rs_n3, ↓rs_l4, ↓rs_ob1, rz_set, rz_nol, rz_clr, List.set_cons_zero, List.set_cons_succ, rz_tr, Nat.reduceAdd, Int.reduceAdd, Int.reduceToNat, Int.reduceSub, Int.reduceNeg, Int.cast_ofNat_Int]
  refine hK _ _ _ _ ?_
  refine rz_cV (As := [.int (nI k)]) (b := a + 9) (S := []) l_Res_123 (by decide +kernel) rfl (rs_wi9 y2).1 rfl (Nat.le_of_ble_eq_true rfl) (Nat.le_refl _) (Nat.le_refl _) (c_Word_drop (rs_wi9 y2) (by rw [z2]; exact hl.1)) (fun r G' hq => ?_)
  obtain ⟨rfl, rfl⟩ := hq
  rw [rs_wp9, z2]
  simp only [Option.toList, List.nil_append]
  generalize hX5 : va_up X4 2 _ = X5
  have a0 : X5 0 = u := by rw [← hX5, va_up_ne _ _ (by decide), z0]
  have a1 : X5 1 = v := by rw [← hX5, va_up_ne _ _ (by decide), z1]
  have a2 : X5 2 = uu.drop k := by rw [← hX5, va_up_self]
  have a3 : X5 3 = vv := by rw [← hX5, va_up_ne _ _ (by decide), z3]
  have y5 : wd_ok 8 (X5 3) := by rw [a3, ← z3]; exact y3
  refine rz_blk' [(.aload_n 0, 1, 0, 0), (.getfield 39, 3, 6, 5), (.iload_n 3, 1, 0, 0)] (by decide +kernel) (Nat.le_refl _) (Nat.le_refl _) (fun K R hK hR => ?_)
  simp only [↓rx_aload_n0, ↓rx_getfield, ↓rx_iload_n3, ↓rx_nil, ↓ry_fvs, ↓ry_fvz, ↓ry_li0s, ↓ry_li0z, ↓ry_lr0s, ↓ry_lr0z, ↓ry_obu, ↓ry_r1, ↓rs_ob, ↓rs_l2, ↓rs_i3, ↓rs_n3, ↓rs_l4, ↓rs_ob1, rz_set, rz_nol, rz_clr, List.set_cons_zero, List.set_cons_succ, rz_tr, Nat.reduceAdd, Int.reduceAdd, Int.reduceToNat, Int.reduceSub, Int.reduceNeg, Int.cast_ofNat_Int]
  refine hK _ _ _ _ ?_
  refine rz_cV (As := [.int (nI k)]) (b := a + 11) (S := []) l_Res_123 (by decide +kernel) rfl (rs_wi11 y5).1 rfl (Nat.le_of_ble_eq_true rfl) (Nat.le_refl _) (Nat.le_refl _) (c_Word_drop (rs_wi11 y5) (by rw [a3]; exact hl.2)) (fun r G' hq => ?_)
  obtain ⟨rfl, rfl⟩ := hq
  rw [rs_wp11, a3]
  simp only [Option.toList, List.nil_append]
  generalize hX6 : va_up X5 3 _ = X6
  have b0 : X6 0 = u := by rw [← hX6, va_up_ne _ _ (by decide), a0]
  have b1 : X6 1 = v := by rw [← hX6, va_up_ne _ _ (by decide), a1]
  have b2 : X6 2 = uu.drop k := by rw [← hX6, va_up_ne _ _ (by decide), a2]
  have b3 : X6 3 = vv.drop k := by rw [← hX6, va_up_self]
  have c2 : wd_ok 8 (X6 2) := by rw [b2]; exact wd_ok_drop (by rw [← z2]; exact y2)
  have c3 : wd_ok 8 (X6 3) := by rw [b3]; exact wd_ok_drop (by rw [← z3]; exact y3)
  have hwr : rs_wr X6 u v := ⟨b0, b1, c2, c3⟩
  have hgo : rs_go m u v e f = ((mv_e m e).2.2.1, (mv_e m f).2.2.1, uu.drop k, vv.drop k) := by
    simp only [rs_go, huu, hvv, hk]
  obtain ⟨s1', s2', s3', s4'⟩ := id hS
  have w2 := (rs_wi9 (G := G) (a := a) (I := I) (A := A) (J := J) (P := P) c2).1
  have w3 := (rs_wi11 (G := G) (a := a) (I := I) (A := A) (J := J) (P := P) c3).1
  have hret : ∀ (I' : Nat → Int32) (A' : Nat → Nat → Int32) (J' : Nat → Nat → Int64), rs_st I' A' J' bd (rs_v bd S (rs_go m u v e f)) → rz_T w (d + 4) 0 0 m_Res_follow 0 0 147 [some (.ref a), some (.int (nI e)), some (.int (nI f)), some (.int (nI k))] [] (rs_put G a I' A' J' X6 P) (fun r G' => r = none ∧ ∃ I' A' J' X', G' = rs_put G a I' A' J' X' P ∧ rs_st I' A' J' bd (rs_v bd S (rs_go m u v e f)) ∧ rs_wr X' u v) := by
    intro I' A' J' hh
    refine rz_blk' [(.return_, 1, 0, 0)] (by decide +kernel) (Nat.le_refl _) (Nat.le_refl _) (fun K R hK hR => ?_)
    simp only [↓rx_nil, ↓rx_return_, ↓rs_ob, ↓rs_l2, ↓rs_i3, ↓rs_n3, ↓rs_l4, ↓rs_ob1, rz_set, rz_nol, rz_clr, List.set_cons_zero, List.set_cons_succ, rz_tr, Nat.reduceAdd, Int.reduceAdd, Int.reduceToNat, Int.reduceSub, Int.reduceNeg, Int.cast_ofNat_Int]
    exact hR _ _ (rz_nb_i (by decide)) ⟨rfl, I', A', J', X6, rfl, hh, hwr⟩
  have l2 := c2.1
  have l3 := c3.1
  have htl : (bd < (X6 2).length ∨ bd < (X6 3).length) → rz_T w (d + 4) 0 0 m_Res_follow 0 0 110 [some (.ref a), some (.int (nI e)), some (.int (nI f)), some (.int (nI k))] [] (rs_put G a I A J X6 P) (fun r G' => r = none ∧ ∃ I' A' J' X', G' = rs_put G a I' A' J' X' P ∧ rs_st I' A' J' bd (rs_v bd S (rs_go m u v e f)) ∧ rs_wr X' u v) := by
    intro hh
    refine rz_blk' [(.aload_n 0, 1, 0, 0), (.iconst 1, 1, 0, 0), (.putfield 65, 3, 6, 8), (.goto 32, 3, 0, 0)] (by decide +kernel) (Nat.le_refl _) (Nat.le_refl _) (fun K R hK hR => ?_)
    simp only [List.length_cons, List.length_nil, Nat.reduceLT, rf_6_8, rf_6_8t, rw_c1, ↓rx_aload_n0, ↓rx_goto, ↓rx_iconst, ↓rx_nil, ↓rx_putfield, ↓ry_lr0s, ↓ry_lr0z, ↓ry_obu, ↓ry_vr, true_and, ↓rs_ob, ↓rs_l2, ↓rs_i3, ↓rs_n3, ↓rs_l4, ↓rs_ob1, rf_6_8t, rs_u8, rz_set, rz_nol, rz_clr, List.set_cons_zero, List.set_cons_succ, rz_tr, Nat.reduceAdd, Int.reduceAdd, Int.reduceToNat, Int.reduceSub, Int.reduceNeg, Int.cast_ofNat_Int]
    refine hK _ _ _ _ (hret _ _ _ ?_)
    rw [hgo]
    simp only [rs_v]
    rw [b2, b3] at hh
    rw [if_pos hh]
    exact ⟨⟨(pk_un (by decide)).trans s1'.1, s1'.2⟩, (pk_un (by decide)).trans s2', by rw [pk_us]; rfl, (pk_un (by decide)).trans s4'⟩
  have hkp : ¬ (bd < (X6 2).length ∨ bd < (X6 3).length) → rz_T w (d + 4) 0 0 m_Res_follow 0 0 118 [some (.ref a), some (.int (nI e)), some (.int (nI f)), some (.int (nI k))] [] (rs_put G a I A J X6 P) (fun r G' => r = none ∧ ∃ I' A' J' X', G' = rs_put G a I' A' J' X' P ∧ rs_st I' A' J' bd (rs_v bd S (rs_go m u v e f)) ∧ rs_wr X' u v) := by
    intro hh
    have hv0 : rs_v bd S (rs_go m u v e f) = if S.2.2 then S else ((rs_k (S.1, S.2.2) (rs_go m u v e f)).1, S.2.1, (rs_k (S.1, S.2.2) (rs_go m u v e f)).2) := by
      rw [b2, b3] at hh
      simp only [rs_v, hgo]
      rw [if_neg hh]
    refine rz_blk' [(.aload_n 0, 1, 0, 0), (.getfield 69, 3, 6, 9), (.ifCond .ne 25, 3, 0, 0)] (by decide +kernel) (Nat.le_refl _) (Nat.le_refl _) (fun K R hK hR => ?_)
    simp only [↓rx_aload_n0, ↓rx_getfield, ↓rx_ifCond_ne, ↓rx_nil, ↓ry_fvs, ↓ry_fvz, ↓ry_i1, ↓ry_lr0s, ↓ry_lr0z, ↓ry_obu, ↓ry_r1, ↓rs_ob, ↓rs_l2, ↓rs_i3, ↓rs_n3, ↓rs_l4, ↓rs_ob1, s4', rz_set, rz_nol, rz_clr, List.set_cons_zero, List.set_cons_succ, rz_tr, Nat.reduceAdd, Int.reduceAdd, Int.reduceToNat, Int.reduceSub, Int.reduceNeg, Int.cast_ofNat_Int]
    rw [rz_b_0]
    refine ⟨fun c => hK _ _ _ _ (hret I A J ?_), fun c => hK _ _ _ _ ?_⟩
    · have c : S.2.2 = true := by simpa using c
      rw [hv0, c, if_pos rfl]; exact hS
    refine rz_blk' [(.aload_n 0, 1, 0, 0), (.aload_n 0, 1, 0, 0), (.getfield 42, 3, 6, 6), (.getfield 129, 3, 2, 4), (.iload_n 1, 1, 0, 0), (.iaload, 1, 0, 0), (.aload_n 0, 1, 0, 0), (.getfield 42, 3, 6, 6), (.getfield 129, 3, 2, 4), (.iload_n 2, 1, 0, 0), (.iaload, 1, 0, 0)] (by decide +kernel) (Nat.le_refl _) (Nat.le_refl _) (fun K R hK hR => ?_)
    simp only [↓rx_aload_n0, ↓rx_getfield, ↓rx_iaload, ↓rx_iload_n1, ↓rx_iload_n2, ↓rx_nil, ↓ry_fvs, ↓ry_fvz, ↓ry_iau, ↓ry_li0s, ↓ry_li0z, ↓ry_lr0s, ↓ry_lr0z, ↓ry_obu, ↓ry_r1, ↓ry_ri, true_and, ↓rs_ob, ↓rs_l2, ↓rs_i3, ↓rs_n3, ↓rs_l4, ↓rs_ob1, ↓rh_ob (ob _ _ _ _), ↓rh_ia (to _ _ _ _), rz_set, rz_nol, rz_clr, List.set_cons_zero, List.set_cons_succ, rz_tr, Nat.reduceAdd, Int.reduceAdd, Int.reduceToNat, Int.reduceSub, Int.reduceNeg, Int.cast_ofNat_Int]
    have t1' := (hm1.2.2.2.2.2.1 e he).2.2.1
    have t2' := (hm1.2.2.2.2.2.1 f hf).2.2.1
    have m6 := hm1.2.2.1
    have te := (hm1.2.2.2.2.2.1 e he).2.2.2.2.2.2
    have tf := (hm1.2.2.2.2.2.1 f hf).2.2.2.2.2.2
    rw [← mv_e_get he] at t1' te
    rw [← mv_e_get hf] at t2' tf
    rw [nI_clamp (by omega), nI_clamp (by omega), t1', t2']
    refine ⟨vp_in_nI (by omega) (by decide), vp_in_nI (by omega) (by decide), hK _ _ _ _ ?_⟩
    have hwok : rs_wok ((mv_e m e).2.2.1, (mv_e m f).2.2.1, X6 2, X6 3) := by
      refine ⟨by dsimp only; omega, by dsimp only; omega, by dsimp only; omega, by dsimp only; omega, ?_, ?_⟩
      · dsimp only; rw [b2]; exact fun x hx => uu8 x (List.mem_of_mem_drop hx)
      · dsimp only; rw [b3]; exact fun x hx => vv8 x (List.mem_of_mem_drop hx)
    refine rz_cV (As := [.int (nI (mv_e m e).2.2.1), .int (nI (mv_e m f).2.2.1)]) (b := a) (S := []) l_Res_76 (by decide +kernel) rfl rs_at0 rfl (Nat.le_of_ble_eq_true rfl) (Nat.le_refl _) (Nat.le_refl _) (c_Res_keep (tm := S.2.2) s1' c2 c3 hwok) (fun r G' hr => ?_)
    obtain ⟨rfl, I', A', J', rfl, g1, g2, g3, g4⟩ := hr
    simp only [Option.toList, List.nil_append]
    rw [b2, b3, ← hgo] at g1 g4
    refine hret I' A' J' ?_
    rw [hv0, c]
    simp only [Bool.false_eq_true, if_false]
    rw [c] at g1 g4
    exact ⟨g1, g2.trans s2', g3.trans s3', g4⟩
  refine rz_blk' [(.aload_n 0, 1, 0, 0), (.getfield 36, 3, 6, 4), (.getfield 126, 3, 0, 1), (.aload_n 0, 1, 0, 0), (.getfield 62, 3, 6, 7), (.if_icmp .gt 17, 3, 0, 0), (.aload_n 0, 1, 0, 0), (.getfield 39, 3, 6, 5), (.getfield 126, 3, 0, 1), (.aload_n 0, 1, 0, 0), (.getfield 62, 3, 6, 7), (.if_icmp .le 11, 3, 0, 0)] (by decide +kernel) (Nat.le_refl _) (Nat.le_refl _) (fun K R hK hR => ?_)
  simp only [↓rx_aload_n0, ↓rx_getfield, ↓rx_if_icmp_gt, ↓rx_if_icmp_le, ↓rx_nil, ↓ry_fvs, ↓ry_fvz, ↓ry_i2, ↓ry_lr0s, ↓ry_lr0z, ↓ry_obu, ↓ry_r1, ↓rs_ob, ↓rs_l2, ↓rs_i3, ↓rs_n3, ↓rs_l4, ↓rs_ob1, ↓rh_ob w2, ↓rh_ob w3, s2', rz_set, rz_nol, rz_clr, List.set_cons_zero, List.set_cons_succ, rz_tr, Nat.reduceAdd, Int.reduceAdd, Int.reduceToNat, Int.reduceSub, Int.reduceNeg, Int.cast_ofNat_Int]
  rw [nI_leI (by omega) (by omega), nI_ltI (by omega) (by omega)]
  refine ⟨fun c => hK _ _ _ _ (htl (Or.inl c)), fun c => ⟨fun c2 => hK _ _ _ _ (hkp (by omega)), fun c2 => hK _ _ _ _ (htl (Or.inr (by omega)))⟩⟩

