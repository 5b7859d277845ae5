/-! WriterDesk$Builder: startPairs -/
def bp_nd (S T : bf_T) (p q : Nat) : ps_nd := (p, q, ps_ap (S.2 p) (T.2 q), ps_cl (S.2 p) (T.2 q), ps_cr (S.2 p) (T.2 q))
def bp_l2 (S T : bf_T) (p : Nat) : Nat → Nat → List ps_nd
  | 0, _ => []
  | k + 1, q => (if S.1.testBit p && T.1.testBit q then [bp_nd S T p q] else []) ++ bp_l2 S T p k (q + 1)
def bp_l1 (S T : bf_T) : Nat → Nat → List ps_nd
  | 0, _ => []
  | k + 1, p => bp_l2 S T p 6 0 ++ bp_l1 S T k (p + 1)
/-- the pairs to begin with -/
def bp_st (S T : bf_T) : List ps_nd := bp_l1 S T 6 0
section BPL
variable {w : rz_w} {d : Nat} {G : rz_G} {a : Nat} {I : Nat → Int32} {A : Nat → Nat → Int32} {J : Nat → Nat → Int64} {X : Nat → List Nat} {P : Nat → Nat} {Im : Nat → Int32} {Am : Nat → Nat → Int32} {Jm : Nat → Nat → Int64} {Xm : Nat → List Nat} {Pm : Nat → Nat} {T S : bf_T} {TS : List bf_T} {em : mv_T} {ec ap st : Nat} {Jp : Nat → Nat → Int64} {Pp : Nat → Nat} {A5 : Nat → Nat → Int32} {Q : Option Value → rz_G → Prop}
set_option maxRecDepth 100000 in
set_option maxHeartbeats 4000000 in
theorem bp_q (hm : mv_is Im Am Xm em ec) (hs : mv_set Im Am em ec) (hap : ap + 304 ≤ a ∨ a + 588 ≤ ap) (hP0 : Pp 0 = a + 1) (hP1 : Pp 1 = a + 1) (hT : bf_st I X T) (hTS : bs_st A X TS) (hst : TS[st]? = some S) {p : Nat} (hp : p < 6)
    (hlS : ∀ q, q < 6 → S.1.testBit q = true → (S.2 q).length ≤ 368) (hlT : ∀ q, q < 6 → T.1.testBit q = true → (T.2 q).length ≤ 368) :
    ∀ (k q : Nat) (N : List ps_nd) (fd : Option Nat) (Ip : Nat → Int32) (Ap : Nat → Nat → Int32) (Xp : Nat → List Nat), q + k = 6 → ps_ss Ip Ap Xp N fd 0 A5 →
      (∀ Ip Ap Xp z4, ps_ss Ip Ap Xp (ps_fld em em ec ec 0 (N, fd) (bp_l2 S T p k q)).1 (ps_fld em em ec ec 0 (N, fd) (bp_l2 S T p k q)).2 0 A5 → rz_T w (d + 4) 0 0 m_Bld_startPairs 0 0 74 [some (.ref a), some (.int (nI st)), some (.ref ap), some (.int (nI p)), z4] [] (ps_put (mc_put (bo_put G a I A J X P) (a + 1) Im Am Jm Xm Pm) ap Ip Ap Jp Xp Pp) Q) →
      rz_T w (d + 4) 0 0 m_Bld_startPairs 0 0 11 [some (.ref a), some (.int (nI st)), some (.ref ap), some (.int (nI p)), some (.int (nI q))] [] (ps_put (mc_put (bo_put G a I A J X P) (a + 1) Im Am Jm Xm Pm) ap Ip Ap Jp Xp Pp) Q := by
  obtain ⟨s0, s1, s2, s3⟩ := id hT
  obtain ⟨u1, u2, u3⟩ := hTS.2 st S hst
  have h40 := hTS.1
  have hl := (List.getElem?_eq_some_iff.mp hst).1
  have hmc : mc_at' (mc_put (bo_put G a I A J X P) (a + 1) Im Am Jm Xm Pm) (Pp 0) ap 304 (Im, Am, Jm, Xm, Pm) em ec := ⟨by rw [hP0]; exact fun o ho => mc_at ho, hm, hs, by unfold mc_ap; omega⟩
  have hmc1 : mc_at' (mc_put (bo_put G a I A J X P) (a + 1) Im Am Jm Xm Pm) (Pp 1) ap 304 (Im, Am, Jm, Xm, Pm) em ec := ⟨by rw [hP1]; exact fun o ho => mc_at ho, hm, hs, by unfold mc_ap; omega⟩
  intro k
  induction k with
  | zero =>
    intro q N fd Ip Ap Xp hk hS hc
    refine rz_blk' [(.iload 4, 2, 0, 0), (.bipush 6, 2, 0, 0), (.if_icmp .ge 59, 3, 0, 0)] (by decide +kernel) (Nat.le_refl _) (Nat.le_refl _) (fun K R hK hR => ?_)
    simp only [rw_b6, ↓rx_bipush, ↓rx_if_icmp_ge, ↓rx_iload, ↓rx_nil, ↓ry_i2, ↓ry_li0s, ↓ry_li0z, ↓bl_ob, ↓bl_r71, ↓bl_i76, ↓bl_i77, ↓bl_i78, ↓bl_i79, ↓bl_r80, ↓bl_r81, rz_set, rz_nol, rz_clr, List.set_cons_zero, List.set_cons_succ, rz_tr, Nat.reduceAdd, Int.reduceAdd, Int.reduceToNat, Int.reduceSub, Int.reduceNeg, Int.cast_ofNat_Int]
    rw [nI_leI (by omega) (by omega)]
    exact ⟨fun c => hK _ _ _ _ (hc Ip Ap Xp _ hS), fun c => by omega⟩
  | succ k ih =>
    intro q N fd Ip Ap Xp hk hS hc
    simp only [bp_l2, ps_fld_app] at hc
    have hob : (ps_put (mc_put (bo_put G a I A J X P) (a + 1) Im Am Jm Xm Pm) ap Ip Ap Jp Xp Pp) a = some (.inr (8, bo_fs a I P)) := by rw [ps_out (by omega)]; exact bl_at0
    have h79 : (ps_put (mc_put (bo_put G a I A J X P) (a + 1) Im Am Jm Xm Pm) ap Ip Ap Jp Xp Pp) (a + 79) = some (.inl (0, 40, .inl (A 3))) := by rw [ps_out (by omega)]; exact bl_c79
    have h80 : (ps_put (mc_put (bo_put G a I A J X P) (a + 1) Im Am Jm Xm Pm) ap Ip Ap Jp Xp Pp) (a + 80) = some (.inl (4, 240, .inr (.inr (.inr (.inr (fun i => some (a + (108 + 2 * i)))))))) := by rw [ps_out (by omega), mc_out (by omega)]; exact bo_at (o := 80) (by decide)
    have h81 : (ps_put (mc_put (bo_put G a I A J X P) (a + 1) Im Am Jm Xm Pm) ap Ip Ap Jp Xp Pp) (a + 81) = some (.inl (4, 6, .inr (.inr (.inr (.inr (fun q => some (a + (86 + 4 * q)))))))) := by rw [ps_out (by omega), mc_out (by omega)]; exact bo_at (o := 81) (by decide)
    have hnext : ∀ (N2 : List ps_nd) (fd2 : Option Nat) Ip Ap Xp, (N2, fd2) = ps_fld em em ec ec 0 (N, fd) (if S.1.testBit p && T.1.testBit q then [bp_nd S T p q] else []) → ps_ss Ip Ap Xp N2 fd2 0 A5 → rz_T w (d + 4) 0 0 m_Bld_startPairs 0 0 68 [some (.ref a), some (.int (nI st)), some (.ref ap), some (.int (nI p)), some (.int (nI q))] [] (ps_put (mc_put (bo_put G a I A J X P) (a + 1) Im Am Jm Xm Pm) ap Ip Ap Jp Xp Pp) Q := by
      intro N2 fd2 Ip Ap Xp e1 e2
      refine rz_blk' [(.iinc 4 1, 3, 0, 0), (.goto (-60), 3, 0, 0)] (by decide +kernel) (Nat.le_refl _) (Nat.le_refl _) (fun K R hK hR => ?_)
      simp only [rw_c1, ↓rx_goto, ↓rx_iinc, ↓rx_nil, ↓ry_li0s, ↓ry_li0z, ↓bl_ob, ↓bl_r71, ↓bl_i76, ↓bl_i77, ↓bl_i78, ↓bl_i79, ↓bl_r80, ↓bl_r81, nI_add, rz_set, rz_nol, rz_clr, List.set_cons_zero, List.set_cons_succ, rz_tr, Nat.reduceAdd, Int.reduceAdd, Int.reduceToNat, Int.reduceSub, Int.reduceNeg, Int.cast_ofNat_Int]
      rw [← e1] at hc
      exact hK _ _ _ _ (ih (q + 1) N2 fd2 Ip Ap Xp (by omega) e2 hc)
    refine rz_blk' [(.iload 4, 2, 0, 0), (.bipush 6, 2, 0, 0), (.if_icmp .ge 59, 3, 0, 0), (.aload_n 0, 1, 0, 0), (.getfield 44, 3, 8, 8), (.iload_n 1, 1, 0, 0), (.iaload, 1, 0, 0), (.iload_n 3, 1, 0, 0)] (by decide +kernel) (Nat.le_refl _) (Nat.le_refl _) (fun K R hK hR => ?_)
    simp only [rw_b6, ↓rx_aload_n0, ↓rx_bipush, ↓rx_getfield, ↓rx_iaload, ↓rx_if_icmp_ge, ↓rx_iload, ↓rx_iload_n1, ↓rx_iload_n3, ↓rx_nil, ↓ry_fvs, ↓ry_fvz, ↓ry_i2, ↓ry_iau, ↓ry_li0s, ↓ry_li0z, ↓ry_lr0s, ↓ry_lr0z, ↓ry_obu, ↓ry_r1, ↓ry_ri, true_and, ↓bl_ob, ↓bl_r71, ↓bl_i76, ↓bl_i77, ↓bl_i78, ↓bl_i79, ↓bl_r80, ↓bl_r81, ↓rh_ob hob, ↓rh_ia h79, rz_set, rz_nol, rz_clr, List.set_cons_zero, List.set_cons_succ, rz_tr, Nat.reduceAdd, Int.reduceAdd, Int.reduceToNat, Int.reduceSub, Int.reduceNeg, Int.cast_ofNat_Int]
    rw [nI_leI (by omega) (by omega), nI_clamp (by omega), u1]
    refine ⟨fun c => by omega, fun c => ⟨vp_in_nI (by omega) (by decide), hK _ _ _ _ ?_⟩⟩
    refine rz_cN (As := [.int (nI S.1), .int (nI p)]) (S := []) l_Bld_119 (by decide +kernel) rfl (Nat.le_of_ble_eq_true rfl) (Nat.le_refl _) (Nat.le_refl _) (c_Desk_has (by omega) (by omega)) (fun r G' hr => ?_)
    obtain ⟨rfl, hg⟩ := hr
    have hg := hg.symm
    subst hg
    simp only [Option.toList, List.cons_append, List.nil_append]
    by_cases ck : S.1.testBit p = true
    · rw [if_pos ck]
      rw [ck, Bool.true_and] at hnext
      refine rz_blk' [(.ifCond .eq 40, 3, 0, 0), (.aload_n 0, 1, 0, 0), (.getfield 90, 3, 8, 10), (.iload 4, 2, 0, 0)] (by decide +kernel) (Nat.le_refl _) (Nat.le_refl _) (fun K R hK hR => ?_)
      simp only [↓rx_aload_n0, ↓rx_getfield, ↓rx_ifCond_eq, ↓rx_iload, ↓rx_nil, ↓ry_fvs, ↓ry_fvz, ↓ry_i1, ↓ry_li0s, ↓ry_li0z, ↓ry_lr0s, ↓ry_lr0z, ↓ry_obu, ↓ry_r1, ↓bl_ob, ↓bl_r71, ↓bl_i76, ↓bl_i77, ↓bl_i78, ↓bl_i79, ↓bl_r80, ↓bl_r81, ↓rh_ob hob, s0, rz_set, rz_nol, rz_clr, List.set_cons_zero, List.set_cons_succ, rz_tr, Nat.reduceAdd, Int.reduceAdd, Int.reduceToNat, Int.reduceSub, Int.reduceNeg, Int.cast_ofNat_Int]
      refine ⟨fun z => absurd z (by decide), fun _ => hK _ _ _ _ ?_⟩
      refine rz_cN (As := [.int (nI T.1), .int (nI q)]) (S := []) l_Bld_119 (by decide +kernel) rfl (Nat.le_of_ble_eq_true rfl) (Nat.le_refl _) (Nat.le_refl _) (c_Desk_has (by omega) (by omega)) (fun r G' hr => ?_)
      obtain ⟨rfl, hg⟩ := hr
      have hg := hg.symm
      subst hg
      simp only [Option.toList, List.cons_append, List.nil_append]
      by_cases cq : T.1.testBit q = true
      · rw [if_pos cq]
        rw [if_pos cq] at hnext
        have wn := bl_wiN (G := G) (a := a) (I := I) (A := A) (J := J) (X := X) (P := P) (Im := Im) (Am := Am) (Jm := Jm) (Xm := Xm) (Pm := Pm) (q := q) (by omega) (s3.2.2.2.1 q (by omega))
        rw [s2 q (by omega)] at wn
        have wr := bl_wi (G := G) (a := a) (I := I) (A := A) (J := J) (X := X) (P := P) (Im := Im) (Am := Am) (Jm := Jm) (Xm := Xm) (Pm := Pm) (j := st * 6 + p) (by omega) (s3.2.2.2.2 _ (by omega))
        rw [u3 p hp ck] at wr
        refine rz_blk' [(.ifCond .eq 28, 3, 0, 0), (.aload_n 2, 1, 0, 0), (.iload_n 3, 1, 0, 0), (.iload 4, 2, 0, 0), (.aload_n 0, 1, 0, 0), (.getfield 47, 3, 8, 9), (.iload_n 1, 1, 0, 0), (.bipush 6, 2, 0, 0), (.imul, 1, 0, 0), (.iload_n 3, 1, 0, 0), (.iadd, 1, 0, 0), (.aaload, 1, 0, 0), (.aload_n 0, 1, 0, 0), (.getfield 50, 3, 8, 11), (.iload 4, 2, 0, 0), (.aaload, 1, 0, 0)] (by decide +kernel) (Nat.le_refl _) (Nat.le_refl _) (fun K R hK hR => ?_)
        simp only [Nat.reduceEqDiff, false_or, or_false, or_true, reduceIte, rw_b6, ↓rx_aaload, ↓rx_aload_n0, ↓rx_aload_n2, ↓rx_bipush, ↓rx_getfield, ↓rx_iadd, ↓rx_ifCond_eq, ↓rx_iload, ↓rx_iload_n1, ↓rx_iload_n3, ↓rx_imul, ↓rx_nil, ↓ry_fvs, ↓ry_fvz, ↓ry_i1, ↓ry_i2, ↓ry_li0s, ↓ry_li0z, ↓ry_lr0s, ↓ry_lr0z, ↓ry_obu, ↓ry_r1, ↓ry_ri, true_and, true_or, ↓bl_ob, ↓bl_r71, ↓bl_i76, ↓bl_i77, ↓bl_i78, ↓bl_i79, ↓bl_r80, ↓bl_r81, ↓rh_ob hob, ↓rh_ra h80, ↓rh_ra h81, pk_mul, nI_add, va_rfs, rz_set, rz_nol, rz_clr, List.set_cons_zero, List.set_cons_succ, rz_tr, Nat.reduceAdd, Int.reduceAdd, Int.reduceToNat, Int.reduceSub, Int.reduceNeg, Int.cast_ofNat_Int]
        rw [nI_clamp (by omega), nI_clamp (by omega)]
        refine ⟨fun z => absurd z (by decide), fun _ => ⟨vp_in_nI (by omega) (by decide), vp_in_nI (by omega) (by decide), hK _ _ _ _ ?_⟩⟩
        refine rz_cV (As := [.int (nI p), .int (nI q), .ref (a + (108 + 2 * (st * 6 + p))), .ref (a + (86 + 4 * q))]) (b := ap) (S := []) l_Bld_215 (by decide +kernel) rfl ps_at0 rfl (Nat.le_of_ble_eq_true rfl) (Nat.le_refl _) (Nat.le_refl _) (c_Pair_start hmc hmc1 hp (by omega) hS wr wn (by omega) (by omega) (hlS p hp ck) (hlT q (by omega) cq)) (fun r G' hr => ?_)
        obtain ⟨rfl, I2, A2, X2, rfl, e2⟩ := hr
        simp only [Option.toList, List.nil_append]
        exact hnext _ _ I2 A2 X2 rfl e2
      · rw [if_neg cq]
        rw [if_neg cq] at hnext
        refine rz_blk' [(.ifCond .eq 28, 3, 0, 0)] (by decide +kernel) (Nat.le_refl _) (Nat.le_refl _) (fun K R hK hR => ?_)
        simp only [↓rx_ifCond_eq, ↓rx_nil, ↓ry_i1, ↓bl_ob, ↓bl_r71, ↓bl_i76, ↓bl_i77, ↓bl_i78, ↓bl_i79, ↓bl_r80, ↓bl_r81, rz_set, rz_nol, rz_clr, List.set_cons_zero, List.set_cons_succ, rz_tr, Nat.reduceAdd, Int.reduceAdd, Int.reduceToNat, Int.reduceSub, Int.reduceNeg, Int.cast_ofNat_Int]
        exact ⟨fun _ => hK _ _ _ _ (hnext N fd Ip Ap Xp rfl hS), fun z => absurd trivial z⟩
    · rw [if_neg ck]
      have ck : S.1.testBit p = false := by simpa using ck
      rw [ck, Bool.false_and] at hnext
      refine rz_blk' [(.ifCond .eq 40, 3, 0, 0)] (by decide +kernel) (Nat.le_refl _) (Nat.le_refl _) (fun K R hK hR => ?_)
      simp only [↓rx_ifCond_eq, ↓rx_nil, ↓ry_i1, ↓bl_ob, ↓bl_r71, ↓bl_i76, ↓bl_i77, ↓bl_i78, ↓bl_i79, ↓bl_r80, ↓bl_r81, rz_set, rz_nol, rz_clr, List.set_cons_zero, List.set_cons_succ, rz_tr, Nat.reduceAdd, Int.reduceAdd, Int.reduceToNat, Int.reduceSub, Int.reduceNeg, Int.cast_ofNat_Int]
      exact ⟨fun _ => hK _ _ _ _ (hnext N fd Ip Ap Xp rfl hS), fun z => absurd trivial z⟩

set_option maxRecDepth 100000 in
set_option maxHeartbeats 4000000 in
theorem bp_p (hm : mv_is Im Am Xm em ec) (hs : mv_set Im Am em ec) (hap : ap + 304 ≤ a ∨ a + 588 ≤ ap) (hP0 : Pp 0 = a + 1) (hP1 : Pp 1 = a + 1) (hT : bf_st I X T) (hTS : bs_st A X TS) (hst : TS[st]? = some S)
    (hlS : ∀ q, q < 6 → S.1.testBit q = true → (S.2 q).length ≤ 368) (hlT : ∀ q, q < 6 → T.1.testBit q = true → (T.2 q).length ≤ 368) :
    ∀ (k p : Nat) (N : List ps_nd) (fd : Option Nat) (Ip : Nat → Int32) (Ap : Nat → Nat → Int32) (Xp : Nat → List Nat) (z4 : Option Value), p + k = 6 → ps_ss Ip Ap Xp N fd 0 A5 →
      (∀ Ip Ap Xp, ps_ss Ip Ap Xp (ps_fld em em ec ec 0 (N, fd) (bp_l1 S T k p)).1 (ps_fld em em ec ec 0 (N, fd) (bp_l1 S T k p)).2 0 A5 → Q none (ps_put (mc_put (bo_put G a I A J X P) (a + 1) Im Am Jm Xm Pm) ap Ip Ap Jp Xp Pp)) →
      rz_T w (d + 4) 0 0 m_Bld_startPairs 0 0 2 [some (.ref a), some (.int (nI st)), some (.ref ap), some (.int (nI p)), z4] [] (ps_put (mc_put (bo_put G a I A J X P) (a + 1) Im Am Jm Xm Pm) ap Ip Ap Jp Xp Pp) Q := by
  intro k
  induction k with
  | zero =>
    intro p N fd Ip Ap Xp z4 hk hS hc
    refine rz_blk' [(.iload_n 3, 1, 0, 0), (.bipush 6, 2, 0, 0), (.if_icmp .ge 75, 3, 0, 0)] (by decide +kernel) (Nat.le_refl _) (Nat.le_refl _) (fun K R hK hR => ?_)
    simp only [rw_b6, ↓rx_bipush, ↓rx_if_icmp_ge, ↓rx_iload_n3, ↓rx_nil, ↓ry_i2, ↓ry_li0s, ↓ry_li0z, ↓bl_ob, ↓bl_r71, ↓bl_i76, ↓bl_i77, ↓bl_i78, ↓bl_i79, ↓bl_r80, ↓bl_r81, rz_set, rz_nol, rz_clr, List.set_cons_zero, List.set_cons_succ, rz_tr, Nat.reduceAdd, Int.reduceAdd, Int.reduceToNat, Int.reduceSub, Int.reduceNeg, Int.cast_ofNat_Int]
    rw [nI_leI (by omega) (by omega)]
    refine ⟨fun c => hK _ _ _ _ ?_, fun c => by omega⟩
    refine rz_blk' [(.return_, 1, 0, 0)] (by decide +kernel) (Nat.le_refl _) (Nat.le_refl _) (fun K R hK hR => ?_)
    simp only [↓rx_nil, ↓rx_return_, ↓bl_ob, ↓bl_r71, ↓bl_i76, ↓bl_i77, ↓bl_i78, ↓bl_i79, ↓bl_r80, ↓bl_r81, rz_set, rz_nol, rz_clr, List.set_cons_zero, List.set_cons_succ, rz_tr, Nat.reduceAdd, Int.reduceAdd, Int.reduceToNat, Int.reduceSub, Int.reduceNeg, Int.cast_ofNat_Int]
    exact hR _ _ (rz_nb_i (by decide)) (hc Ip Ap Xp hS)
  | succ k ih =>
    intro p N fd Ip Ap Xp z4 hk hS hc
    simp only [bp_l1, ps_fld_app] at hc
    refine rz_blk' [(.iload_n 3, 1, 0, 0), (.bipush 6, 2, 0, 0), (.if_icmp .ge 75, 3, 0, 0), (.iconst 0, 1, 0, 0), (.istore 4, 2, 0, 0)] (by decide +kernel) (Nat.le_refl _) (Nat.le_refl _) (fun K R hK hR => ?_)
    simp only [rw_b6, rw_c0, ↓rx_bipush, ↓rx_iconst, ↓rx_if_icmp_ge, ↓rx_iload_n3, ↓rx_istore, ↓rx_nil, ↓ry_i1, ↓ry_i2, ↓ry_li0s, ↓ry_li0z, ↓bl_ob, ↓bl_r71, ↓bl_i76, ↓bl_i77, ↓bl_i78, ↓bl_i79, ↓bl_r80, ↓bl_r81, rz_set, rz_nol, rz_clr, List.set_cons_zero, List.set_cons_succ, rz_tr, Nat.reduceAdd, Int.reduceAdd, Int.reduceToNat, Int.reduceSub, Int.reduceNeg, Int.cast_ofNat_Int]
    rw [nI_leI (by omega) (by omega)]
    refine ⟨fun c => by omega, fun c => hK _ _ _ _ ?_⟩
    refine bp_q hm hs hap hP0 hP1 hT hTS hst (by omega) hlS hlT 6 0 N fd Ip Ap Xp rfl hS (fun Ip Ap Xp z4' t1 => ?_)
    refine rz_blk' [(.iinc 3 1, 3, 0, 0), (.goto (-75), 3, 0, 0)] (by decide +kernel) (Nat.le_refl _) (Nat.le_refl _) (fun K R hK hR => ?_)
    simp only [rw_c1, ↓rx_goto, ↓rx_iinc, ↓rx_nil, ↓ry_li0s, ↓ry_li0z, ↓bl_ob, ↓bl_r71, ↓bl_i76, ↓bl_i77, ↓bl_i78, ↓bl_i79, ↓bl_r80, ↓bl_r81, nI_add, rz_set, rz_nol, rz_clr, List.set_cons_zero, List.set_cons_succ, rz_tr, Nat.reduceAdd, Int.reduceAdd, Int.reduceToNat, Int.reduceSub, Int.reduceNeg, Int.cast_ofNat_Int]
    exact hK _ _ _ _ (ih (p + 1) _ _ Ip Ap Xp _ (by omega) t1 hc)
end BPL

set_option maxRecDepth 100000 in
set_option maxHeartbeats 4000000 in
/-- startPairs(state, pairs) -/
theorem c_Bld_startPairs {w : rz_w} {d : Nat} {G : rz_G} {a : Nat} {I : Nat → Int32} {A : Nat → Nat → Int32} {J : Nat → Nat → Int64} {X : Nat → List Nat} {P : Nat → Nat} {Im : Nat → Int32} {Am : Nat → Nat → Int32} {Jm : Nat → Nat → Int64} {Xm : Nat → List Nat} {Pm : Nat → Nat} {T S : bf_T} {TS : List bf_T} {em : mv_T} {ec ap st : Nat} {Ip : Nat → Int32} {Ap : Nat → Nat → Int32} {Xp : Nat → List Nat} {Jp : Nat → Nat → Int64} {Pp : Nat → Nat} {A5 : Nat → Nat → Int32} {N : List ps_nd} {fd : Option Nat} (hm : mv_is Im Am Xm em ec) (hs : mv_set Im Am em ec) (hap : ap + 304 ≤ a ∨ a + 588 ≤ ap) (hP0 : Pp 0 = a + 1) (hP1 : Pp 1 = a + 1) (hT : bf_st I X T) (hTS : bs_st A X TS) (hst : TS[st]? = some S)
    (hlS : ∀ q, q < 6 → S.1.testBit q = true → (S.2 q).length ≤ 368) (hlT : ∀ q, q < 6 → T.1.testBit q = true → (T.2 q).length ≤ 368) (hS : ps_ss Ip Ap Xp N fd 0 A5) :
    rz_C w (d + 4) 0 0 y_Bld_startPairs m_Bld_startPairs [.ref a, .int (nI st), .ref ap] (ps_put (mc_put (bo_put G a I A J X P) (a + 1) Im Am Jm Xm Pm) ap Ip Ap Jp Xp Pp) (fun r G' => r = none ∧ ∃ I' A' X', G' = (ps_put (mc_put (bo_put G a I A J X P) (a + 1) Im Am Jm Xm Pm) ap I' A' Jp X' Pp) ∧ ps_ss I' A' X' (ps_fld em em ec ec 0 (N, fd) (bp_st S T)).1 (ps_fld em em ec ec 0 (N, fd) (bp_st S T)).2 0 A5) := by
  refine rz_enter' [some (.ref a), some (.int (nI st)), some (.ref ap), none, none] (by decide +kernel) rfl rfl (Nat.le_of_ble_eq_true rfl) rfl ?_
  refine rz_blk' [(.iconst 0, 1, 0, 0), (.istore_n 3, 1, 0, 0)] (by decide +kernel) (Nat.le_refl _) (Nat.le_refl _) (fun K R hK hR => ?_)
  simp only [rw_c0, ↓rx_iconst, ↓rx_istore_n3, ↓rx_nil, ↓ry_i1, ↓bl_ob, ↓bl_r71, ↓bl_i76, ↓bl_i77, ↓bl_i78, ↓bl_i79, ↓bl_r80, ↓bl_r81, rz_set, rz_nol, rz_clr, List.set_cons_zero, List.set_cons_succ, rz_tr, Nat.reduceAdd, Int.reduceAdd, Int.reduceToNat, Int.reduceSub, Int.reduceNeg, Int.cast_ofNat_Int]
  exact hK _ _ _ _ (bp_p hm hs hap hP0 hP1 hT hTS hst hlS hlT 6 0 N fd Ip Ap Xp none rfl hS (fun I' A' X' t => ⟨rfl, I', A', X', rfl, t⟩))

