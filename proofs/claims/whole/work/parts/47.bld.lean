/-! WriterDesk$Builder: follow -/
def bg_k (em : mv_T) (ec l : Nat) (S : bf_T) : Nat → Nat → bf_T → bf_T
  | 0, _, T => T
  | k + 1, q, T => bg_k em ec l S k (q + 1) (if S.1.testBit q then (mv_pl em (mv_al em ec) (q * 3 + l)).foldl (bf_e em (S.2 q)) T else T)
/-- the set behind a letter, before the lead is cut -/
def bg_go (em : mv_T) (ec l : Nat) (S : bf_T) (nr : Nat → List Nat) : bf_T := bg_k em ec l S em.1 0 (0, nr)
section BGL
variable {w : rz_w} {d : Nat} {G : rz_G} {a : Nat} {A : Nat → Nat → Int32} {J : Nat → Nat → Int64} {P : Nat → Nat} {Im : Nat → Int32} {Am : Nat → Nat → Int32} {Jm : Nat → Nat → Int64} {Xm : Nat → List Nat} {Pm : Nat → Nat} {em : mv_T} {ec l st : Nat} {S : bf_T} {Q : Option Value → rz_G → Prop}
set_option maxRecDepth 100000 in
set_option maxHeartbeats 4000000 in
theorem bg_l (hm : mv_is Im Am Xm em ec) (hs : mv_set Im Am em ec) (hl : l < 3) (hst : st < 40) (hset : A 3 st = nI S.1) (hS64 : S.1 < 64) (hfit : ∀ q, q < 6 → S.1.testBit q = true → ∀ e ∈ mv_pl em (mv_al em ec) (q * 3 + l), (S.2 q).length + (mv_e em e).2.2.2.length ≤ 176) :
    ∀ (k q : Nat) (T : bf_T) (I : Nat → Int32) (X : Nat → List Nat), q + k = em.1 → bf_st I X T → (∀ q, q < 6 → S.1.testBit q = true → X (15 + (st * 6 + q)) = S.2 q) →
      (∀ I' X' z3, bf_st I' X' (bg_k em ec l S k q T) → bf_kp I I' X X' → rz_T w (d + 2) 0 0 m_Bld_follow 0 0 54 [some (.ref a), some (.int (nI st)), some (.int (nI l)), z3] [] (mc_put (bo_put G a I' A J X' P) (a + 1) Im Am Jm Xm Pm) Q) →
      rz_T w (d + 2) 0 0 m_Bld_follow 0 0 7 [some (.ref a), some (.int (nI st)), some (.int (nI l)), some (.int (nI q))] [] (mc_put (bo_put G a I A J X P) (a + 1) Im Am Jm Xm Pm) Q := by
  intro k
  have m0 := hm.1
  have m6 := hm.2.2.1
  induction k with
  | zero =>
    intro q T I X hk hT hX hc
    refine rz_blk' [(.iload_n 3, 1, 0, 0), (.aload_n 0, 1, 0, 0), (.getfield 12, 3, 8, 0), (.getfield 118, 3, 2, 0), (.if_icmp .ge 39, 3, 0, 0)] (by decide +kernel) (Nat.le_refl _) (Nat.le_refl _) (fun K R hK hR => ?_)
    simp only [↓rx_aload_n0, ↓rx_getfield, ↓rx_if_icmp_ge, ↓rx_iload_n3, ↓rx_nil, ↓ry_fvs, ↓ry_fvz, ↓ry_i2, ↓ry_li0s, ↓ry_li0z, ↓ry_lr0s, ↓ry_lr0z, ↓ry_obu, ↓ry_r1, ↓bl_ob, ↓bl_r71, ↓bl_i76, ↓bl_i77, ↓bl_i78, ↓bl_i79, ↓bl_r80, ↓bl_r81, ↓mc_ob, ↓mc_i1, ↓mc_n1, ↓mc_i2, ↓mc_n2, ↓mc_i3, ↓mc_n3, ↓mc_r4, ↓mc_r7, ↓mc_i8, ↓mc_n8, ↓mc_i9, ↓mc_n9, m0, rz_set, rz_nol, rz_clr, List.set_cons_zero, List.set_cons_succ, rz_tr, Nat.reduceAdd, Int.reduceAdd, Int.reduceToNat, Int.reduceSub, Int.reduceNeg, Int.cast_ofNat_Int]
    rw [nI_leI (by omega) (by omega)]
    exact ⟨fun c => hK _ _ _ _ (hc I X _ hT bf_kp.rfl'), fun c => by omega⟩
  | succ k ih =>
    intro q T I X hk hT hX hc
    simp only [bg_k] at hc
    refine rz_blk' [(.iload_n 3, 1, 0, 0), (.aload_n 0, 1, 0, 0), (.getfield 12, 3, 8, 0), (.getfield 118, 3, 2, 0), (.if_icmp .ge 39, 3, 0, 0), (.aload_n 0, 1, 0, 0), (.getfield 44, 3, 8, 8), (.iload_n 1, 1, 0, 0), (.iaload, 1, 0, 0), (.iload_n 3, 1, 0, 0)] (by decide +kernel) (Nat.le_refl _) (Nat.le_refl _) (fun K R hK hR => ?_)
    simp only [↓rx_aload_n0, ↓rx_getfield, ↓rx_iaload, ↓rx_if_icmp_ge, ↓rx_iload_n1, ↓rx_iload_n3, ↓rx_nil, ↓ry_fvs, ↓ry_fvz, ↓ry_i2, ↓ry_iau, ↓ry_li0s, ↓ry_li0z, ↓ry_lr0s, ↓ry_lr0z, ↓ry_obu, ↓ry_r1, ↓ry_ri, true_and, ↓bl_ob, ↓bl_r71, ↓bl_i76, ↓bl_i77, ↓bl_i78, ↓bl_i79, ↓bl_r80, ↓bl_r81, ↓mc_ob, ↓mc_i1, ↓mc_n1, ↓mc_i2, ↓mc_n2, ↓mc_i3, ↓mc_n3, ↓mc_r4, ↓mc_r7, ↓mc_i8, ↓mc_n8, ↓mc_i9, ↓mc_n9, m0, rz_set, rz_nol, rz_clr, List.set_cons_zero, List.set_cons_succ, rz_tr, Nat.reduceAdd, Int.reduceAdd, Int.reduceToNat, Int.reduceSub, Int.reduceNeg, Int.cast_ofNat_Int]
    rw [nI_leI (by omega) (by omega), nI_clamp (by omega), hset]
    refine ⟨fun c => by omega, fun c => ⟨vp_in_nI (by omega) (by decide), hK _ _ _ _ ?_⟩⟩
    refine rz_cN (As := [.int (nI S.1), .int (nI q)]) (S := []) l_Bld_119 (by decide +kernel) rfl (Nat.le_of_ble_eq_true rfl) (Nat.le_refl _) (Nat.le_refl _) (c_Desk_has (by omega) (by omega)) (fun r G' hr => ?_)
    obtain ⟨rfl, hg⟩ := hr
    have hg := hg.symm
    subst hg
    simp only [Option.toList, List.cons_append, List.nil_append]
    have hnext : ∀ (T2 : bf_T) I2 X2, T2 = (if S.1.testBit q then (mv_pl em (mv_al em ec) (q * 3 + l)).foldl (bf_e em (S.2 q)) T else T) → bf_st I2 X2 T2 → bf_kp I I2 X X2 → rz_T w (d + 2) 0 0 m_Bld_follow 0 0 48 [some (.ref a), some (.int (nI st)), some (.int (nI l)), some (.int (nI q))] [] (mc_put (bo_put G a I2 A J X2 P) (a + 1) Im Am Jm Xm Pm) Q := by
      intro T2 I2 X2 e1 e2 e3
      refine rz_blk' [(.iinc 3 1, 3, 0, 0), (.goto (-44), 3, 0, 0)] (by decide +kernel) (Nat.le_refl _) (Nat.le_refl _) (fun K R hK hR => ?_)
      simp only [rw_c1, ↓rx_goto, ↓rx_iinc, ↓rx_nil, ↓ry_li0s, ↓ry_li0z, ↓bl_ob, ↓bl_r71, ↓bl_i76, ↓bl_i77, ↓bl_i78, ↓bl_i79, ↓bl_r80, ↓bl_r81, ↓mc_ob, ↓mc_i1, ↓mc_n1, ↓mc_i2, ↓mc_n2, ↓mc_i3, ↓mc_n3, ↓mc_r4, ↓mc_r7, ↓mc_i8, ↓mc_n8, ↓mc_i9, ↓mc_n9, nI_add, rz_set, rz_nol, rz_clr, List.set_cons_zero, List.set_cons_succ, rz_tr, Nat.reduceAdd, Int.reduceAdd, Int.reduceToNat, Int.reduceSub, Int.reduceNeg, Int.cast_ofNat_Int]
      rw [← e1] at hc
      exact hK _ _ _ _ (ih (q + 1) T2 I2 X2 (by omega) e2 (fun q' hq' hb' => (e3.2.2 _ (by omega)).trans (hX q' hq' hb')) (fun I' X' z3 t1 t2 => hc I' X' z3 t1 (e3.trans t2)))
    by_cases ck : S.1.testBit q = true
    · rw [if_pos ck]
      refine rz_blk' [(.ifCond .eq 20, 3, 0, 0), (.aload_n 0, 1, 0, 0), (.iload_n 3, 1, 0, 0), (.iload_n 2, 1, 0, 0), (.aload_n 0, 1, 0, 0), (.getfield 47, 3, 8, 9), (.iload_n 1, 1, 0, 0), (.bipush 6, 2, 0, 0), (.imul, 1, 0, 0), (.iload_n 3, 1, 0, 0), (.iadd, 1, 0, 0), (.aaload, 1, 0, 0)] (by decide +kernel) (Nat.le_refl _) (Nat.le_refl _) (fun K R hK hR => ?_)
      simp only [Nat.reduceEqDiff, false_or, or_false, or_true, reduceIte, rw_b6, ↓rx_aaload, ↓rx_aload_n0, ↓rx_bipush, ↓rx_getfield, ↓rx_iadd, ↓rx_ifCond_eq, ↓rx_iload_n1, ↓rx_iload_n2, ↓rx_iload_n3, ↓rx_imul, ↓rx_nil, ↓ry_fvs, ↓ry_fvz, ↓ry_i1, ↓ry_i2, ↓ry_li0s, ↓ry_li0z, ↓ry_lr0s, ↓ry_lr0z, ↓ry_obu, ↓ry_r1, ↓ry_ri, true_and, true_or, ↓bl_ob, ↓bl_r71, ↓bl_i76, ↓bl_i77, ↓bl_i78, ↓bl_i79, ↓bl_r80, ↓bl_r81, ↓mc_ob, ↓mc_i1, ↓mc_n1, ↓mc_i2, ↓mc_n2, ↓mc_i3, ↓mc_n3, ↓mc_r4, ↓mc_r7, ↓mc_i8, ↓mc_n8, ↓mc_i9, ↓mc_n9, pk_mul, nI_add, va_rfs, rz_set, rz_nol, rz_clr, List.set_cons_zero, List.set_cons_succ, rz_tr, Nat.reduceAdd, Int.reduceAdd, Int.reduceToNat, Int.reduceSub, Int.reduceNeg, Int.cast_ofNat_Int]
      rw [nI_clamp (by omega)]
      refine ⟨fun z => absurd z (by decide), fun _ => ⟨vp_in_nI (by omega) (by decide), hK _ _ _ _ ?_⟩⟩
      refine rz_cV (As := [.int (nI q), .int (nI l), .ref (a + (108 + 2 * (st * 6 + q)))]) (b := a) (S := []) l_Bld_195 (by decide +kernel) rfl bl_at0 rfl (Nat.le_of_ble_eq_true rfl) (Nat.le_refl _) (Nat.le_refl _) (c_Bld_followFrom (rs := S.2 q) hm hs (by omega) hl (by omega) (hfit q (by omega) ck) hT (hX q (by omega) ck)) (fun r G' hr => ?_)
      obtain ⟨rfl, I2, X2, rfl, e1, e2⟩ := hr
      simp only [Option.toList, List.nil_append]
      exact hnext _ I2 X2 (by rw [if_pos ck]) e1 e2
    · rw [if_neg ck]
      refine rz_blk' [(.ifCond .eq 20, 3, 0, 0)] (by decide +kernel) (Nat.le_refl _) (Nat.le_refl _) (fun K R hK hR => ?_)
      simp only [↓rx_ifCond_eq, ↓rx_nil, ↓ry_i1, ↓bl_ob, ↓bl_r71, ↓bl_i76, ↓bl_i77, ↓bl_i78, ↓bl_i79, ↓bl_r80, ↓bl_r81, ↓mc_ob, ↓mc_i1, ↓mc_n1, ↓mc_i2, ↓mc_n2, ↓mc_i3, ↓mc_n3, ↓mc_r4, ↓mc_r7, ↓mc_i8, ↓mc_n8, ↓mc_i9, ↓mc_n9, rz_set, rz_nol, rz_clr, List.set_cons_zero, List.set_cons_succ, rz_tr, Nat.reduceAdd, Int.reduceAdd, Int.reduceToNat, Int.reduceSub, Int.reduceNeg, Int.cast_ofNat_Int]
      exact ⟨fun _ => hK _ _ _ _ (hnext T I X (by rw [if_neg ck]) hT bf_kp.rfl'), fun z => absurd trivial z⟩
end BGL

set_option maxRecDepth 100000 in
set_option maxHeartbeats 4000000 in
/-- follow(state, letter) -/
theorem c_Bld_follow {w : rz_w} {d : Nat} {G : rz_G} {a : Nat} {I : Nat → Int32} {A : Nat → Nat → Int32} {J : Nat → Nat → Int64} {X : Nat → List Nat} {P : Nat → Nat} {Im : Nat → Int32} {Am : Nat → Nat → Int32} {Jm : Nat → Nat → Int64} {Xm : Nat → List Nat} {Pm : Nat → Nat} {em : mv_T} {ec l st : Nat} {S : bf_T} {nr : Nat → List Nat} (hm : mv_is Im Am Xm em ec) (hs : mv_set Im Am em ec) (hl : l < 3) (hst : st < 40) (hset : A 3 st = nI S.1) (hS64 : S.1 < 64) (hfit : ∀ q, q < 6 → S.1.testBit q = true → ∀ e ∈ mv_pl em (mv_al em ec) (q * 3 + l), (S.2 q).length + (mv_e em e).2.2.2.length ≤ 176) (hX : ∀ q, q < 6 → S.1.testBit q = true → X (15 + (st * 6 + q)) = S.2 q) (hn : ∀ q, q < 6 → X (9 + q) = nr q) (hxo : bl_xo X) :
    rz_C w (d + 2) 0 0 y_Bld_follow m_Bld_follow [.ref a, .int (nI st), .int (nI l)] (mc_put (bo_put G a I A J X P) (a + 1) Im Am Jm Xm Pm) (fun r G' => r = none ∧ ∃ I' X', G' = (mc_put (bo_put G a I' A J X' P) (a + 1) Im Am Jm Xm Pm) ∧ bf_st I' X' (bc_ct (bg_go em ec l S nr)) ∧ I' 0 = I 0 ∧ (∀ j, j < 2 ∨ (3 ≤ j ∧ j < 9) ∨ 15 ≤ j → X' j = X j) ∧ ∀ h, bc_ld (bg_go em ec l S nr) = some h → X' 2 = h) := by
  refine rz_enter' [some (.ref a), some (.int (nI st)), some (.int (nI l)), none] (by decide +kernel) rfl rfl (Nat.le_of_ble_eq_true rfl) rfl ?_
  refine rz_blk' [(.aload_n 0, 1, 0, 0), (.iconst 0, 1, 0, 0), (.putfield 90, 3, 8, 10)] (by decide +kernel) (Nat.le_refl _) (Nat.le_refl _) (fun K R hK hR => ?_)
  simp only [List.length_cons, List.length_nil, Nat.reduceLT, rf_8_10, rw_c0, ↓rx_aload_n0, ↓rx_iconst, ↓rx_nil, ↓rx_putfield, ↓ry_lr0s, ↓ry_lr0z, ↓ry_obu, ↓ry_vr, true_and, ↓bl_ob, ↓bl_r71, ↓bl_i76, ↓bl_i77, ↓bl_i78, ↓bl_i79, ↓bl_r80, ↓bl_r81, ↓mc_ob, ↓mc_i1, ↓mc_n1, ↓mc_i2, ↓mc_n2, ↓mc_i3, ↓mc_n3, ↓mc_r4, ↓mc_r7, ↓mc_i8, ↓mc_n8, ↓mc_i9, ↓mc_n9, bl_u10, rz_set, rz_nol, rz_clr, List.set_cons_zero, List.set_cons_succ, rz_tr, Nat.reduceAdd, Int.reduceAdd, Int.reduceToNat, Int.reduceSub, Int.reduceNeg, Int.cast_ofNat_Int]
  refine hK _ _ _ _ ?_
  refine rz_blk' [(.iconst 0, 1, 0, 0), (.istore_n 3, 1, 0, 0)] (by decide +kernel) (Nat.le_refl _) (Nat.le_refl _) (fun K R hK hR => ?_)
  simp only [rw_c0, ↓rx_iconst, ↓rx_istore_n3, ↓rx_nil, ↓ry_i1, ↓bl_ob, ↓bl_r71, ↓bl_i76, ↓bl_i77, ↓bl_i78, ↓bl_i79, ↓bl_r80, ↓bl_r81, ↓mc_ob, ↓mc_i1, ↓mc_n1, ↓mc_i2, ↓mc_n2, ↓mc_i3, ↓mc_n3, ↓mc_r4, ↓mc_r7, ↓mc_i8, ↓mc_n8, ↓mc_i9, ↓mc_n9, rz_set, rz_nol, rz_clr, List.set_cons_zero, List.set_cons_succ, rz_tr, Nat.reduceAdd, Int.reduceAdd, Int.reduceToNat, Int.reduceSub, Int.reduceNeg, Int.cast_ofNat_Int]
  refine hK _ _ _ _ (bg_l hm hs hl hst hset hS64 hfit em.1 0 (0, nr) _ X (by omega) ⟨pk_us, (by decide : 0 < 64), hn, hxo⟩ hX (fun I2 X2 z3 t1 t2 => ?_))
  change bf_st I2 X2 (bg_go em ec l S nr) at t1
  refine rz_blk' [(.aload_n 0, 1, 0, 0)] (by decide +kernel) (Nat.le_refl _) (Nat.le_refl _) (fun K R hK hR => ?_)
  simp only [↓rx_aload_n0, ↓rx_nil, ↓ry_lr0s, ↓ry_lr0z, ↓bl_ob, ↓bl_r71, ↓bl_i76, ↓bl_i77, ↓bl_i78, ↓bl_i79, ↓bl_r80, ↓bl_r81, ↓mc_ob, ↓mc_i1, ↓mc_n1, ↓mc_i2, ↓mc_n2, ↓mc_i3, ↓mc_n3, ↓mc_r4, ↓mc_r7, ↓mc_i8, ↓mc_n8, ↓mc_i9, ↓mc_n9, rz_set, rz_nol, rz_clr, List.set_cons_zero, List.set_cons_succ, rz_tr, Nat.reduceAdd, Int.reduceAdd, Int.reduceToNat, Int.reduceSub, Int.reduceNeg, Int.cast_ofNat_Int]
  refine hK _ _ _ _ ?_
  refine rz_cV (As := []) (b := a) (S := []) l_Bld_199 (by decide +kernel) rfl bl_at0 rfl (Nat.le_of_ble_eq_true rfl) (Nat.le_refl _) (Nat.le_refl _) (c_Bld_cutLead t1) (fun r G' hr => ?_)
  obtain ⟨rfl, X3, rfl, u1, u2, u3⟩ := hr
  simp only [Option.toList, List.nil_append]
  refine rz_blk' [(.return_, 1, 0, 0)] (by decide +kernel) (Nat.le_refl _) (Nat.le_refl _) (fun K R hK hR => ?_)
  simp only [↓rx_nil, ↓rx_return_, ↓bl_ob, ↓bl_r71, ↓bl_i76, ↓bl_i77, ↓bl_i78, ↓bl_i79, ↓bl_r80, ↓bl_r81, ↓mc_ob, ↓mc_i1, ↓mc_n1, ↓mc_i2, ↓mc_n2, ↓mc_i3, ↓mc_n3, ↓mc_r4, ↓mc_r7, ↓mc_i8, ↓mc_n8, ↓mc_i9, ↓mc_n9, rz_set, rz_nol, rz_clr, List.set_cons_zero, List.set_cons_succ, rz_tr, Nat.reduceAdd, Int.reduceAdd, Int.reduceToNat, Int.reduceSub, Int.reduceNeg, Int.cast_ofNat_Int]
  refine hR _ _ (rz_nb_i (by decide)) ⟨rfl, I2, X3, rfl, u1, t2.1.trans (pk_un (by decide)), fun j hj => ?_, u3⟩
  rw [u2 j hj]
  rcases hj with hj | hj | hj
  · exact t2.2.1 j (by omega)
  · exact t2.2.1 j (by omega)
  · exact t2.2.2 j hj

