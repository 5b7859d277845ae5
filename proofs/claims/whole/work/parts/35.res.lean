/-! WriterDesk$ResidualSearch: spread -/
def rs_c2 (m : mv_T) (n : rs_nd) (es fs : List Nat) : List rs_nd := es.flatMap (fun e => fs.map (fun f => rs_go m n.2.2.1 n.2.2.2 e f))
def rs_nl (m : mv_T) (al : Nat) (n : rs_nd) (l : Nat) : List rs_nd := rs_c2 m n (mv_pl m al (n.1 * 3 + l)) (mv_pl m al (n.2.1 * 3 + l))
def rs_nk (m : mv_T) (al : Nat) (n : rs_nd) : Nat → Nat → List rs_nd
  | 0, _ => []
  | k + 1, l => rs_nl m al n l ++ rs_nk m al n k (l + 1)
def rs_fld (bd : Nat) (S : rs_sT) (ns : List rs_nd) : rs_sT := ns.foldl (rs_v bd) S
theorem rs_fld_app {bd : Nat} {S : rs_sT} {xs ys : List rs_nd} : rs_fld bd S (xs ++ ys) = rs_fld bd (rs_fld bd S xs) ys := List.foldl_append
section RSP
variable {w : rz_w} {d : Nat} {G : rz_G} {a : Nat} {P : Nat → Nat} {M1 : mc_S} {m : mv_T} {cl bd l : Nat} {n : rs_nd} {Q : Option Value → rz_G → Prop} {z1 z2 : Option Value}
set_option maxRecDepth 100000 in
set_option maxHeartbeats 4000000 in
theorem rs_sp_j (h1 : mc_at' G (P 0) a 13 M1 m cl) (h3 : mv_w3 m) (hbd : bd ≤ 108) (hl : l < 3) (hn1 : n.1 < 6) (hn2 : n.2.1 < 6) (hu : rs_bs n.2.2.1) (hv : rs_bs n.2.2.2) {i e : Nat} (hi : i < (mv_pl m (mv_al m cl) (n.1 * 3 + l)).length) (hie : (mv_pl m (mv_al m cl) (n.1 * 3 + l))[i]? = some e) :
    ∀ (k j : Nat) (S : rs_sT) (I : Nat → Int32) (A : Nat → Nat → Int32) (J : Nat → Nat → Int64) (X : Nat → List Nat), (mv_pl m (mv_al m cl) (n.2.1 * 3 + l)).length + 1 ≤ j + k → j ≤ (mv_pl m (mv_al m cl) (n.2.1 * 3 + l)).length → rs_st I A J bd S → rs_wr X n.2.2.1 n.2.2.2 →
      (∀ I A J X z, rs_st I A J bd (rs_fld bd S (((mv_pl m (mv_al m cl) (n.2.1 * 3 + l)).drop j).map (fun f => rs_go m n.2.2.1 n.2.2.2 e f))) → rs_wr X n.2.2.1 n.2.2.2 → rz_T w (d + 5) 0 0 m_Res_spread 0 0 233 [some (.ref a), z1, z2, some (.int (nI n.1)), some (.int (nI n.2.1)), some (.int (nI l)), some (.int (nI (n.1 * 3 + l))), some (.int (nI (n.2.1 * 3 + l))), some (.int (nI ((mv_so m (mv_al m cl) (n.1 * 3 + l)).length + i))), z] [] (rs_put G a I A J X P) Q) →
      rz_T w (d + 5) 0 0 m_Res_spread 0 0 186 [some (.ref a), z1, z2, some (.int (nI n.1)), some (.int (nI n.2.1)), some (.int (nI l)), some (.int (nI (n.1 * 3 + l))), some (.int (nI (n.2.1 * 3 + l))), some (.int (nI ((mv_so m (mv_al m cl) (n.1 * 3 + l)).length + i))), some (.int (nI ((mv_so m (mv_al m cl) (n.2.1 * 3 + l)).length + j)))] [] (rs_put G a I A J X P) Q := by
  intro k
  obtain ⟨-, hm1, hs1, ha1⟩ := id h1
  unfold mc_ap at ha1
  obtain ⟨p1, p2, p3, p4⟩ := mv_row hs1 (show n.1 * 3 + l < 18 by omega)
  obtain ⟨r1, r2, r3, r4⟩ := mv_row hs1 (show n.2.1 * 3 + l < 18 by omega)
  have n1 := hm1.2.2.2.2.1
  obtain ⟨se1, se2⟩ := p4 i e hie
  generalize hpl1 : mv_pl m (mv_al m cl) (n.1 * 3 + l) = pl1 at *
  generalize hso1 : (mv_so m (mv_al m cl) (n.1 * 3 + l)).length = so1 at *
  generalize hpl2 : mv_pl m (mv_al m cl) (n.2.1 * 3 + l) = pl2 at *
  generalize hso2 : (mv_so m (mv_al m cl) (n.2.1 * 3 + l)).length = so2 at *
  induction k with
  | zero => intro j S I A J X q1 q2; omega
  | succ k ih =>
    intro j S I A J X hk hj hS hX hc
    have hmc1 := rs_mc (a := a) (I := I) (A := A) (J := J) (X := X) (P := P) h1
    have ob1 : (rs_put G a I A J X P) (P 0) = some (.inr (2, mc_fs (P 0) M1.1 M1.2.2.2.2)) := hmc1 0 (by decide)
    have b2 : (rs_put G a I A J X P) (P 0 + 9) = some (.inl (0, 19, .inl (M1.2.1 4))) := hmc1 9 (by decide)
    have t1 : (rs_put G a I A J X P) (P 0 + 8) = some (.inl (0, 24, .inl (M1.2.1 3))) := hmc1 8 (by decide)
    refine rz_blk' [(.iload 9, 2, 0, 0), (.aload_n 0, 1, 0, 0), (.getfield 42, 3, 6, 6), (.getfield 98, 3, 2, 12), (.iload 7, 2, 0, 0), (.iconst 1, 1, 0, 0), (.iadd, 1, 0, 0), (.iaload, 1, 0, 0), (.if_icmp .ge 33, 3, 0, 0), (.aload_n 0, 1, 0, 0), (.aload_n 0, 1, 0, 0), (.getfield 42, 3, 6, 6), (.getfield 102, 3, 2, 11), (.iload 8, 2, 0, 0), (.iaload, 1, 0, 0), (.aload_n 0, 1, 0, 0), (.getfield 42, 3, 6, 6), (.getfield 102, 3, 2, 11), (.iload 9, 2, 0, 0), (.iaload, 1, 0, 0)] (by decide +kernel) (Nat.le_refl _) (Nat.le_refl _) (fun K R hK hR => ?_)
    simp only [rw_c1, ↓rx_aload_n0, ↓rx_getfield, ↓rx_iadd, ↓rx_iaload, ↓rx_iconst, ↓rx_if_icmp_ge, ↓rx_iload, ↓rx_nil, ↓ry_fvs, ↓ry_fvz, ↓ry_i2, ↓ry_iau, ↓ry_li0s, ↓ry_li0z, ↓ry_lr0s, ↓ry_lr0z, ↓ry_obu, ↓ry_r1, ↓ry_ri, true_and, ↓rs_ob, ↓rs_l2, ↓rs_i3, ↓rs_n3, ↓rs_l4, ↓rs_ob1, ↓rh_ob ob1, ↓rh_ia b2, ↓rh_ia t1, nI_add, rz_set, rz_nol, rz_clr, List.set_cons_zero, List.set_cons_succ, rz_tr, Nat.reduceAdd, Int.reduceAdd, Int.reduceToNat, Int.reduceSub, Int.reduceNeg, Int.cast_ofNat_Int]
    rw [nI_clamp (n := n.2.1 * 3 + l + 1) (by omega), r2, nI_leI (by omega) (by omega)]
    refine ⟨vp_in_nI (by omega) (by decide), fun b1 => hK _ _ _ _ ?_, fun b1 => ?_⟩
    · have e0 : pl2.drop j = [] := List.drop_of_length_le (by omega)
      rw [e0] at hc
      exact hc I A J X _ hS hX
    have hjl : j < pl2.length := by omega
    obtain ⟨f, hjf⟩ : ∃ f, pl2[j]? = some f := ⟨_, List.getElem?_eq_getElem hjl⟩
    obtain ⟨sf1, sf2⟩ := r4 j f hjf
    have hdr : pl2.drop j = f :: pl2.drop (j + 1) := by
      rw [List.drop_eq_getElem_cons hjl]
      congr 1
      rw [List.getElem?_eq_getElem hjl] at hjf
      exact Option.some.inj hjf
    rw [hdr] at hc
    simp only [List.map_cons, rs_fld, List.foldl_cons] at hc
    rw [nI_clamp (by omega), nI_clamp (by omega), se1, sf1]
    refine ⟨vp_in_nI (by omega) (by decide), vp_in_nI (by omega) (by decide), hK _ _ _ _ ?_⟩
    refine rz_cV (As := [.int (nI e), .int (nI f)]) (b := a) (S := []) l_Res_105 (by decide +kernel) rfl rs_at0 rfl (Nat.le_of_ble_eq_true rfl) (Nat.le_refl _) (Nat.le_refl _) (c_Res_follow h1 h3 se2 sf2 hS hbd hX hu hv) (fun r G' hr => ?_)
    obtain ⟨rfl, I', A', J', X', rfl, hS', hX'⟩ := hr
    simp only [Option.toList, List.nil_append]
    refine rz_blk' [(.iinc 9 1, 3, 0, 0), (.goto (-44), 3, 0, 0)] (by decide +kernel) (Nat.le_refl _) (Nat.le_refl _) (fun K R hK hR => ?_)
    simp only [rw_c1, ↓rx_goto, ↓rx_iinc, ↓rx_nil, ↓ry_li0s, ↓ry_li0z, ↓rs_ob, ↓rs_l2, ↓rs_i3, ↓rs_n3, ↓rs_l4, ↓rs_ob1, nI_add, rz_set, rz_nol, rz_clr, List.set_cons_zero, List.set_cons_succ, rz_tr, Nat.reduceAdd, Int.reduceAdd, Int.reduceToNat, Int.reduceSub, Int.reduceNeg, Int.cast_ofNat_Int]
    rw [Nat.add_assoc]
    exact hK _ _ _ _ (ih (j + 1) _ I' A' J' X' (by omega) (by omega) hS' hX' hc)

set_option maxRecDepth 100000 in
set_option maxHeartbeats 4000000 in
theorem rs_sp_i (h1 : mc_at' G (P 0) a 13 M1 m cl) (h3 : mv_w3 m) (hbd : bd ≤ 108) (hl : l < 3) (hn1 : n.1 < 6) (hn2 : n.2.1 < 6) (hu : rs_bs n.2.2.1) (hv : rs_bs n.2.2.2) :
    ∀ (k i : Nat) (S : rs_sT) (I : Nat → Int32) (A : Nat → Nat → Int32) (J : Nat → Nat → Int64) (X : Nat → List Nat) (z9 : Option Value), (mv_pl m (mv_al m cl) (n.1 * 3 + l)).length + 1 ≤ i + k → i ≤ (mv_pl m (mv_al m cl) (n.1 * 3 + l)).length → rs_st I A J bd S → rs_wr X n.2.2.1 n.2.2.2 →
      (∀ I A J X z8 z9, rs_st I A J bd (rs_fld bd S (rs_c2 m n ((mv_pl m (mv_al m cl) (n.1 * 3 + l)).drop i) (mv_pl m (mv_al m cl) (n.2.1 * 3 + l)))) → rs_wr X n.2.2.1 n.2.2.2 → rz_T w (d + 5) 0 0 m_Res_spread 0 0 239 [some (.ref a), z1, z2, some (.int (nI n.1)), some (.int (nI n.2.1)), some (.int (nI l)), some (.int (nI (n.1 * 3 + l))), some (.int (nI (n.2.1 * 3 + l))), z8, z9] [] (rs_put G a I A J X P) Q) →
      rz_T w (d + 5) 0 0 m_Res_spread 0 0 157 [some (.ref a), z1, z2, some (.int (nI n.1)), some (.int (nI n.2.1)), some (.int (nI l)), some (.int (nI (n.1 * 3 + l))), some (.int (nI (n.2.1 * 3 + l))), some (.int (nI ((mv_so m (mv_al m cl) (n.1 * 3 + l)).length + i))), z9] [] (rs_put G a I A J X P) Q := by
  intro k
  obtain ⟨-, hm1, hs1, ha1⟩ := id h1
  unfold mc_ap at ha1
  obtain ⟨p1, p2, p3, p4⟩ := mv_row hs1 (show n.1 * 3 + l < 18 by omega)
  obtain ⟨r1, r2, r3, r4⟩ := mv_row hs1 (show n.2.1 * 3 + l < 18 by omega)
  have hj := fun i e q q2 => @rs_sp_j w d G a P M1 m cl bd l n Q z1 z2 h1 h3 hbd hl hn1 hn2 hu hv i e q q2
  generalize hpl1 : mv_pl m (mv_al m cl) (n.1 * 3 + l) = pl1 at *
  generalize hso1 : (mv_so m (mv_al m cl) (n.1 * 3 + l)).length = so1 at *
  generalize hpl2 : mv_pl m (mv_al m cl) (n.2.1 * 3 + l) = pl2 at *
  generalize hso2 : (mv_so m (mv_al m cl) (n.2.1 * 3 + l)).length = so2 at *
  have n1 := hm1.2.2.2.2.1
  induction k with
  | zero => intro i S I A J X z9 q1 q2; omega
  | succ k ih =>
    intro i S I A J X z9 hk hi hS hX hc
    have hmc1 := rs_mc (a := a) (I := I) (A := A) (J := J) (X := X) (P := P) h1
    have ob1 : (rs_put G a I A J X P) (P 0) = some (.inr (2, mc_fs (P 0) M1.1 M1.2.2.2.2)) := hmc1 0 (by decide)
    have b1 : (rs_put G a I A J X P) (P 0 + 9) = some (.inl (0, 19, .inl (M1.2.1 4))) := hmc1 9 (by decide)
    refine rz_blk' [(.iload 8, 2, 0, 0), (.aload_n 0, 1, 0, 0), (.getfield 42, 3, 6, 6), (.getfield 98, 3, 2, 12), (.iload 6, 2, 0, 0), (.iconst 1, 1, 0, 0), (.iadd, 1, 0, 0), (.iaload, 1, 0, 0), (.if_icmp .ge 68, 3, 0, 0), (.aload_n 0, 1, 0, 0), (.getfield 42, 3, 6, 6), (.getfield 98, 3, 2, 12), (.iload 7, 2, 0, 0), (.iaload, 1, 0, 0), (.istore 9, 2, 0, 0)] (by decide +kernel) (Nat.le_refl _) (Nat.le_refl _) (fun K R hK hR => ?_)
    simp only [rw_c1, ↓rx_aload_n0, ↓rx_getfield, ↓rx_iadd, ↓rx_iaload, ↓rx_iconst, ↓rx_if_icmp_ge, ↓rx_iload, ↓rx_istore, ↓rx_nil, ↓ry_fvs, ↓ry_fvz, ↓ry_i1, ↓ry_i2, ↓ry_iau, ↓ry_li0s, ↓ry_li0z, ↓ry_lr0s, ↓ry_lr0z, ↓ry_obu, ↓ry_r1, ↓ry_ri, true_and, ↓rs_ob, ↓rs_l2, ↓rs_i3, ↓rs_n3, ↓rs_l4, ↓rs_ob1, ↓rh_ob ob1, ↓rh_ia b1, nI_add, rz_set, rz_nol, rz_clr, List.set_cons_zero, List.set_cons_succ, rz_tr, Nat.reduceAdd, Int.reduceAdd, Int.reduceToNat, Int.reduceSub, Int.reduceNeg, Int.cast_ofNat_Int]
    rw [nI_clamp (n := n.1 * 3 + l + 1) (by omega), p2, nI_leI (by omega) (by omega)]
    refine ⟨vp_in_nI (by omega) (by decide), fun c1 => hK _ _ _ _ ?_, fun c1 => ?_⟩
    · have e0 : pl1.drop i = [] := List.drop_of_length_le (by omega)
      rw [e0] at hc
      exact hc I A J X _ _ hS hX
    have hil : i < pl1.length := by omega
    obtain ⟨e, hie⟩ : ∃ e, pl1[i]? = some e := ⟨_, List.getElem?_eq_getElem hil⟩
    have hdr : pl1.drop i = e :: pl1.drop (i + 1) := by
      rw [List.drop_eq_getElem_cons hil]
      congr 1
      rw [List.getElem?_eq_getElem hil] at hie
      exact Option.some.inj hie
    rw [hdr] at hc
    simp only [rs_c2, List.flatMap_cons, rs_fld_app] at hc
    rw [nI_clamp (by omega), r1]
    refine ⟨vp_in_nI (by omega) (by decide), hK _ _ _ _ ?_⟩
    have hjj := hj i e hil hie (pl2.length + 1) 0 S I A J X (by omega) (by omega) hS hX
    simp only [Nat.add_zero, List.drop_zero] at hjj
    refine hjj (fun I' A' J' X' z' hS' hX' => ?_)
    refine rz_blk' [(.iinc 8 1, 3, 0, 0), (.goto (-79), 3, 0, 0)] (by decide +kernel) (Nat.le_refl _) (Nat.le_refl _) (fun K R hK hR => ?_)
    simp only [rw_c1, ↓rx_goto, ↓rx_iinc, ↓rx_nil, ↓ry_li0s, ↓ry_li0z, ↓rs_ob, ↓rs_l2, ↓rs_i3, ↓rs_n3, ↓rs_l4, ↓rs_ob1, nI_add, rz_set, rz_nol, rz_clr, List.set_cons_zero, List.set_cons_succ, rz_tr, Nat.reduceAdd, Int.reduceAdd, Int.reduceToNat, Int.reduceSub, Int.reduceNeg, Int.cast_ofNat_Int]
    rw [Nat.add_assoc]
    exact hK _ _ _ _ (ih (i + 1) _ I' A' J' X' _ (by omega) (by omega) hS' hX' hc)

set_option maxRecDepth 100000 in
set_option maxHeartbeats 4000000 in
theorem rs_sp_l (h1 : mc_at' G (P 0) a 13 M1 m cl) (h3 : mv_w3 m) (hbd : bd ≤ 108) (hn1 : n.1 < 6) (hn2 : n.2.1 < 6) (hu : rs_bs n.2.2.1) (hv : rs_bs n.2.2.2) :
    ∀ (k l : Nat) (S : rs_sT) (I : Nat → Int32) (A : Nat → Nat → Int32) (J : Nat → Nat → Int64) (X : Nat → List Nat) (z6 z7 z8 z9 : Option Value), l + k = 3 → rs_st I A J bd S → rs_wr X n.2.2.1 n.2.2.2 →
      (∀ I A J X L, rs_st I A J bd (rs_fld bd S (rs_nk m (mv_al m cl) n k l)) → rs_wr X n.2.2.1 n.2.2.2 → rz_T w (d + 5) 0 0 m_Res_spread 0 0 245 L [] (rs_put G a I A J X P) Q) →
      rz_T w (d + 5) 0 0 m_Res_spread 0 0 122 [some (.ref a), z1, z2, some (.int (nI n.1)), some (.int (nI n.2.1)), some (.int (nI l)), z6, z7, z8, z9] [] (rs_put G a I A J X P) Q := by
  intro k
  induction k with
  | zero =>
    intro l S I A J X z6 z7 z8 z9 hk hS hX hc
    refine rz_blk' [(.iload 5, 2, 0, 0), (.iconst 3, 1, 0, 0), (.if_icmp .ge 120, 3, 0, 0)] (by decide +kernel) (Nat.le_refl _) (Nat.le_refl _) (fun K R hK hR => ?_)
    simp only [rw_c3, ↓rx_iconst, ↓rx_if_icmp_ge, ↓rx_iload, ↓rx_nil, ↓ry_i2, ↓ry_li0s, ↓ry_li0z, ↓rs_ob, ↓rs_l2, ↓rs_i3, ↓rs_n3, ↓rs_l4, ↓rs_ob1, rz_set, rz_nol, rz_clr, List.set_cons_zero, List.set_cons_succ, rz_tr, Nat.reduceAdd, Int.reduceAdd, Int.reduceToNat, Int.reduceSub, Int.reduceNeg, Int.cast_ofNat_Int]
    rw [nI_leI (by omega) (by omega)]
    exact ⟨fun q => hK _ _ _ _ (hc I A J X _ hS hX), fun q => by omega⟩
  | succ k ih =>
    intro l S I A J X z6 z7 z8 z9 hk hS hX hc
    simp only [rs_nk, rs_fld_app] at hc
    have hmc1 := rs_mc (a := a) (I := I) (A := A) (J := J) (X := X) (P := P) h1
    have ob1 : (rs_put G a I A J X P) (P 0) = some (.inr (2, mc_fs (P 0) M1.1 M1.2.2.2.2)) := hmc1 0 (by decide)
    have b1 : (rs_put G a I A J X P) (P 0 + 9) = some (.inl (0, 19, .inl (M1.2.1 4))) := hmc1 9 (by decide)
    obtain ⟨p1, p2, p3, p4⟩ := mv_row h1.2.2.1 (show n.1 * 3 + l < 18 by omega)
    refine rz_blk' [(.iload 5, 2, 0, 0), (.iconst 3, 1, 0, 0), (.if_icmp .ge 120, 3, 0, 0), (.iload_n 3, 1, 0, 0), (.iconst 3, 1, 0, 0), (.imul, 1, 0, 0), (.iload 5, 2, 0, 0), (.iadd, 1, 0, 0), (.istore 6, 2, 0, 0)] (by decide +kernel) (Nat.le_refl _) (Nat.le_refl _) (fun K R hK hR => ?_)
    simp only [rw_c3, ↓rx_iadd, ↓rx_iconst, ↓rx_if_icmp_ge, ↓rx_iload, ↓rx_iload_n3, ↓rx_imul, ↓rx_istore, ↓rx_nil, ↓ry_i1, ↓ry_i2, ↓ry_li0s, ↓ry_li0z, ↓rs_ob, ↓rs_l2, ↓rs_i3, ↓rs_n3, ↓rs_l4, ↓rs_ob1, pk_mul, nI_add, rz_set, rz_nol, rz_clr, List.set_cons_zero, List.set_cons_succ, rz_tr, Nat.reduceAdd, Int.reduceAdd, Int.reduceToNat, Int.reduceSub, Int.reduceNeg, Int.cast_ofNat_Int]
    rw [nI_leI (by omega) (by omega)]
    refine ⟨fun q => by omega, fun q => hK _ _ _ _ ?_⟩
    refine rz_blk' [(.iload 4, 2, 0, 0), (.iconst 3, 1, 0, 0), (.imul, 1, 0, 0), (.iload 5, 2, 0, 0), (.iadd, 1, 0, 0), (.istore 7, 2, 0, 0)] (by decide +kernel) (Nat.le_refl _) (Nat.le_refl _) (fun K R hK hR => ?_)
    simp only [rw_c3, ↓rx_iadd, ↓rx_iconst, ↓rx_iload, ↓rx_imul, ↓rx_istore, ↓rx_nil, ↓ry_i1, ↓ry_i2, ↓ry_li0s, ↓ry_li0z, ↓rs_ob, ↓rs_l2, ↓rs_i3, ↓rs_n3, ↓rs_l4, ↓rs_ob1, pk_mul, nI_add, rz_set, rz_nol, rz_clr, List.set_cons_zero, List.set_cons_succ, rz_tr, Nat.reduceAdd, Int.reduceAdd, Int.reduceToNat, Int.reduceSub, Int.reduceNeg, Int.cast_ofNat_Int]
    refine hK _ _ _ _ ?_
    refine rz_blk' [(.aload_n 0, 1, 0, 0), (.getfield 42, 3, 6, 6), (.getfield 98, 3, 2, 12), (.iload 6, 2, 0, 0), (.iaload, 1, 0, 0), (.istore 8, 2, 0, 0)] (by decide +kernel) (Nat.le_refl _) (Nat.le_refl _) (fun K R hK hR => ?_)
    simp only [↓rx_aload_n0, ↓rx_getfield, ↓rx_iaload, ↓rx_iload, ↓rx_istore, ↓rx_nil, ↓ry_fvs, ↓ry_fvz, ↓ry_i1, ↓ry_iau, ↓ry_li0s, ↓ry_li0z, ↓ry_lr0s, ↓ry_lr0z, ↓ry_obu, ↓ry_r1, ↓ry_ri, true_and, ↓rs_ob, ↓rs_l2, ↓rs_i3, ↓rs_n3, ↓rs_l4, ↓rs_ob1, ↓rh_ob ob1, ↓rh_ia b1, rz_set, rz_nol, rz_clr, List.set_cons_zero, List.set_cons_succ, rz_tr, Nat.reduceAdd, Int.reduceAdd, Int.reduceToNat, Int.reduceSub, Int.reduceNeg, Int.cast_ofNat_Int]
    rw [nI_clamp (by omega), p1]
    refine ⟨vp_in_nI (by omega) (by decide), hK _ _ _ _ ?_⟩
    have hii := rs_sp_i (w := w) (d := d) (z1 := z1) (z2 := z2) (Q := Q) (l := l) h1 h3 hbd (by omega) hn1 hn2 hu hv ((mv_pl m (mv_al m cl) (n.1 * 3 + l)).length + 1) 0 S I A J X z9 (by omega) (by omega) hS hX
    simp only [Nat.add_zero, List.drop_zero] at hii
    refine hii (fun I' A' J' X' z8' z9' hS' hX' => ?_)
    refine rz_blk' [(.iinc 5 1, 3, 0, 0), (.goto (-120), 3, 0, 0)] (by decide +kernel) (Nat.le_refl _) (Nat.le_refl _) (fun K R hK hR => ?_)
    simp only [rw_c1, ↓rx_goto, ↓rx_iinc, ↓rx_nil, ↓ry_li0s, ↓ry_li0z, ↓rs_ob, ↓rs_l2, ↓rs_i3, ↓rs_n3, ↓rs_l4, ↓rs_ob1, nI_add, rz_set, rz_nol, rz_clr, List.set_cons_zero, List.set_cons_succ, rz_tr, Nat.reduceAdd, Int.reduceAdd, Int.reduceToNat, Int.reduceSub, Int.reduceNeg, Int.cast_ofNat_Int]
    exact hK _ _ _ _ (ih (l + 1) _ I' A' J' X' _ _ _ _ (by omega) hS' hX' hc)
end RSP
def rs_xo (X : Nat → List Nat) : Prop := ∀ j, j < 4 → wd_ok 8 (X j)
theorem rs_cells {I : Nat → Int32} {A : Nat → Nat → Int32} {J : Nat → Nat → Int64} {ps : List rs_nd} {i : Nat} {n : rs_nd} (h : rs_rw I A J ps) (hi : ps[i]? = some n) : J 1 (i * 15) = lN (rs_hd n) ∧ (∀ j, j < 7 → J 1 (i * 15 + 1 + j) = wd_f n.2.2.1 j) ∧ ∀ j, j < 7 → J 1 (i * 15 + 8 + j) = wd_f n.2.2.2 j := by
  obtain ⟨hil, hin⟩ := List.getElem?_eq_some_iff.mp hi
  have h4 := h.2.1 i (by simpa using hil)
  rw [List.getElem_map, hin] at h4
  have hx : ∀ k, k < 15 → some (J 1 (i * 15 + k)) = (rs_enc n)[k]? := by
    intro k hk
    rw [← h4]; simp [rw_l, hk]
  refine ⟨?_, fun j hj => ?_, fun j hj => ?_⟩
  · have := hx 0 (by decide)
    simpa [rs_enc] using this
  · have := hx (1 + j) (by omega)
    rw [Nat.add_assoc]
    rw [rs_enc, show 1 + j = j + 1 by omega, List.getElem?_cons_succ, List.getElem?_append_left (by simpa using hj)] at this
    rw [show 1 + j = j + 1 by omega]
    simpa [hj] using this
  · have := hx (8 + j) (by omega)
    rw [Nat.add_assoc]
    rw [rs_enc, show 8 + j = (7 + j) + 1 by omega, List.getElem?_cons_succ, List.getElem?_append_right (by simp)] at this
    rw [show 8 + j = (7 + j) + 1 by omega]
    simpa [hj] using this

set_option maxRecDepth 100000 in
set_option maxHeartbeats 4000000 in
/-- spread(number) -/
theorem c_Res_spread {w : rz_w} {d : Nat} {G : rz_G} {a : Nat} {I : Nat → Int32} {A : Nat → Nat → Int32} {J : Nat → Nat → Int64} {X : Nat → List Nat} {P : Nat → Nat} {M1 : mc_S} {m : mv_T} {cl bd i : Nat} {S : rs_sT} {n : rs_nd} (h1 : mc_at' G (P 0) a 13 M1 m cl) (h3 : mv_w3 m) (hbd : bd ≤ 108) (hS : rs_st I A J bd S) (hX : rs_xo X) (hi : S.1[i]? = some n) :
    rz_C w (d + 5) 0 0 y_Res_spread m_Res_spread [.ref a, .int (nI i)] (rs_put G a I A J X P) (fun r G' => r = none ∧ ∃ I' A' J' X', G' = rs_put G a I' A' J' X' P ∧ rs_st I' A' J' bd (rs_fld bd S (rs_nk m (mv_al m cl) n 3 0)) ∧ rs_xo X') := by
  obtain ⟨c1, c2, c3⟩ := rs_cells hS.1 hi
  obtain ⟨k1, k2, k3, k4, k5, k6⟩ := hS.1.2.2.2.2.2 n (List.mem_of_getElem? hi)
  have hil := (List.getElem?_eq_some_iff.mp hi).1
  have h3000 := hS.1.2.2.2.1
  have hhd : rs_hd n < 2 ^ 32 := by simp only [rs_hd]; omega
  have e255 : (255 : Int64) = lN (2 ^ 8 - 1) := rfl
  refine rz_enter' [some (.ref a), some (.int (nI i)), none, none, none, none, none, none, none, none] (by decide +kernel) rfl rfl (Nat.le_of_ble_eq_true rfl) rfl ?_
  refine rz_blk' [(.iload_n 1, 1, 0, 0), (.aload_n 0, 1, 0, 0), (.getfield 14, 3, 6, 0), (.getfield 86, 3, 1, 1), (.imul, 1, 0, 0), (.istore_n 2, 1, 0, 0)] (by decide +kernel) (Nat.le_refl _) (Nat.le_refl _) (fun K R hK hR => ?_)
  simp only [↓rx_aload_n0, ↓rx_getfield, ↓rx_iload_n1, ↓rx_imul, ↓rx_istore_n2, ↓rx_nil, ↓ry_fvs, ↓ry_fvz, ↓ry_i1, ↓ry_i2, ↓ry_li0s, ↓ry_li0z, ↓ry_lr0s, ↓ry_lr0z, ↓ry_obu, ↓ry_r1, ↓rs_ob, ↓rs_l2, ↓rs_i3, ↓rs_n3, ↓rs_l4, ↓rs_ob1, pk_mul, rz_set, rz_nol, rz_clr, List.set_cons_zero, List.set_cons_succ, rz_tr, Nat.reduceAdd, Int.reduceAdd, Int.reduceToNat, Int.reduceSub, Int.reduceNeg, Int.cast_ofNat_Int]
  refine hK _ _ _ _ ?_
  refine rz_blk' [(.aload_n 0, 1, 0, 0), (.getfield 14, 3, 6, 0), (.getfield 89, 3, 1, 0), (.iload_n 2, 1, 0, 0), (.laload, 1, 0, 0), (.bipush 24, 2, 0, 0), (.lushr, 1, 0, 0)] (by decide +kernel) (Nat.le_refl _) (Nat.le_refl _) (fun K R hK hR => ?_)
  simp only [rw_b24, ↓rx_aload_n0, ↓rx_bipush, ↓rx_getfield, ↓rx_iload_n2, ↓rx_laload, ↓rx_lushr, ↓rx_nil, ↓ry_fvs, ↓ry_fvz, ↓ry_lau, ↓ry_li, ↓ry_li0s, ↓ry_li0z, ↓ry_lr0s, ↓ry_lr0z, ↓ry_obu, ↓ry_r1, ↓ry_ri, ↓rs_ob, ↓rs_l2, ↓rs_i3, ↓rs_n3, ↓rs_l4, ↓rs_ob1, rz_set, rz_nol, rz_clr, List.set_cons_zero, List.set_cons_succ, rz_tr, Nat.reduceAdd, Int.reduceAdd, Int.reduceToNat, Int.reduceSub, Int.reduceNeg, Int.cast_ofNat_Int]
  rw [nI_clamp (by omega), c1, wb_shr (by omega) (by decide)]
  refine ⟨vp_in_nI (by omega) (by decide), hK _ _ _ _ (rz_ldc2 (v := 255) (by decide +kernel) (rz_j4 202 rfl rfl) ?_)⟩
  refine rz_blk' [(.land, 1, 0, 0), (.l2i, 1, 0, 0), (.istore_n 3, 1, 0, 0)] (by decide +kernel) (Nat.le_refl _) (Nat.le_refl _) (fun K R hK hR => ?_)
  simp only [↓rx_istore_n3, ↓rx_l2i, ↓rx_land, ↓rx_nil, ↓ry_i1, ↓ry_l1, ↓ry_l2, ↓rs_ob, ↓rs_l2, ↓rs_i3, ↓rs_n3, ↓rs_l4, ↓rs_ob1, rz_set, rz_nol, rz_clr, List.set_cons_zero, List.set_cons_succ, rz_tr, Nat.reduceAdd, Int.reduceAdd, Int.reduceToNat, Int.reduceSub, Int.reduceNeg, Int.cast_ofNat_Int]
  rw [e255, wb_mask (by omega) (by decide), lN_i, show rs_hd n / 2 ^ 24 % 2 ^ 8 = n.1 by simp only [rs_hd]; omega]
  refine hK _ _ _ _ ?_
  refine rz_blk' [(.aload_n 0, 1, 0, 0), (.getfield 14, 3, 6, 0), (.getfield 89, 3, 1, 0), (.iload_n 2, 1, 0, 0), (.laload, 1, 0, 0), (.bipush 16, 2, 0, 0), (.lushr, 1, 0, 0)] (by decide +kernel) (Nat.le_refl _) (Nat.le_refl _) (fun K R hK hR => ?_)
  simp only [rw_b16, ↓rx_aload_n0, ↓rx_bipush, ↓rx_getfield, ↓rx_iload_n2, ↓rx_laload, ↓rx_lushr, ↓rx_nil, ↓ry_fvs, ↓ry_fvz, ↓ry_lau, ↓ry_li, ↓ry_li0s, ↓ry_li0z, ↓ry_lr0s, ↓ry_lr0z, ↓ry_obu, ↓ry_r1, ↓ry_ri, ↓rs_ob, ↓rs_l2, ↓rs_i3, ↓rs_n3, ↓rs_l4, ↓rs_ob1, rz_set, rz_nol, rz_clr, List.set_cons_zero, List.set_cons_succ, rz_tr, Nat.reduceAdd, Int.reduceAdd, Int.reduceToNat, Int.reduceSub, Int.reduceNeg, Int.cast_ofNat_Int]
  rw [nI_clamp (by omega), c1, wb_shr (by omega) (by decide)]
  refine ⟨vp_in_nI (by omega) (by decide), hK _ _ _ _ (rz_ldc2 (v := 255) (by decide +kernel) (rz_j4 202 rfl rfl) ?_)⟩
  refine rz_blk' [(.land, 1, 0, 0), (.l2i, 1, 0, 0), (.istore 4, 2, 0, 0)] (by decide +kernel) (Nat.le_refl _) (Nat.le_refl _) (fun K R hK hR => ?_)
  simp only [↓rx_istore, ↓rx_l2i, ↓rx_land, ↓rx_nil, ↓ry_i1, ↓ry_l1, ↓ry_l2, ↓rs_ob, ↓rs_l2, ↓rs_i3, ↓rs_n3, ↓rs_l4, ↓rs_ob1, rz_set, rz_nol, rz_clr, List.set_cons_zero, List.set_cons_succ, rz_tr, Nat.reduceAdd, Int.reduceAdd, Int.reduceToNat, Int.reduceSub, Int.reduceNeg, Int.cast_ofNat_Int]
  rw [e255, wb_mask (by omega) (by decide), lN_i, show rs_hd n / 2 ^ 16 % 2 ^ 8 = n.2.1 by simp only [rs_hd]; omega]
  refine hK _ _ _ _ ?_
  refine rz_blk' [(.aload_n 0, 1, 0, 0), (.getfield 29, 3, 6, 2), (.aload_n 0, 1, 0, 0), (.getfield 14, 3, 6, 0), (.getfield 89, 3, 1, 0), (.iload_n 2, 1, 0, 0), (.iconst 1, 1, 0, 0), (.iadd, 1, 0, 0), (.bipush 7, 2, 0, 0), (.aload_n 0, 1, 0, 0), (.getfield 14, 3, 6, 0), (.getfield 89, 3, 1, 0), (.iload_n 2, 1, 0, 0), (.laload, 1, 0, 0), (.bipush 8, 2, 0, 0), (.lushr, 1, 0, 0)] (by decide +kernel) (Nat.le_refl _) (Nat.le_refl _) (fun K R hK hR => ?_)
  simp only [rw_b7, rw_b8, rw_c1, ↓rx_aload_n0, ↓rx_bipush, ↓rx_getfield, ↓rx_iadd, ↓rx_iconst, ↓rx_iload_n2, ↓rx_laload, ↓rx_lushr, ↓rx_nil, ↓ry_fvs, ↓ry_fvz, ↓ry_i2, ↓ry_lau, ↓ry_li, ↓ry_li0s, ↓ry_li0z, ↓ry_lr0s, ↓ry_lr0z, ↓ry_obu, ↓ry_r1, ↓ry_ri, ↓rs_ob, ↓rs_l2, ↓rs_i3, ↓rs_n3, ↓rs_l4, ↓rs_ob1, nI_add, rz_set, rz_nol, rz_clr, List.set_cons_zero, List.set_cons_succ, rz_tr, Nat.reduceAdd, Int.reduceAdd, Int.reduceToNat, Int.reduceSub, Int.reduceNeg, Int.cast_ofNat_Int]
  rw [nI_clamp (by omega), c1, wb_shr (by omega) (by decide)]
  refine ⟨vp_in_nI (by omega) (by decide), hK _ _ _ _ (rz_ldc2 (v := 255) (by decide +kernel) (rz_j4 202 rfl rfl) ?_)⟩
  refine rz_blk' [(.land, 1, 0, 0), (.l2i, 1, 0, 0)] (by decide +kernel) (Nat.le_refl _) (Nat.le_refl _) (fun K R hK hR => ?_)
  simp only [↓rx_l2i, ↓rx_land, ↓rx_nil, ↓ry_l1, ↓ry_l2, ↓rs_ob, ↓rs_l2, ↓rs_i3, ↓rs_n3, ↓rs_l4, ↓rs_ob1, rz_set, rz_nol, rz_clr, List.set_cons_zero, List.set_cons_succ, rz_tr, Nat.reduceAdd, Int.reduceAdd, Int.reduceToNat, Int.reduceSub, Int.reduceNeg, Int.cast_ofNat_Int]
  rw [e255, wb_mask (by omega) (by decide), lN_i, show rs_hd n / 2 ^ 8 % 2 ^ 8 = n.2.2.1.length by simp only [rs_hd]; omega]
  refine hK _ _ _ _ ?_
  have hu : rs_bs n.2.2.1 := ⟨k3, k5⟩
  have hv : rs_bs n.2.2.2 := ⟨k4, k6⟩
  refine rz_cV (As := [.ref (a + 2), .int (nI (i * 15 + 1)), .int (nI 7), .int (nI n.2.2.1.length)]) (b := a + 5) (S := []) l_Res_94 (by decide +kernel) rfl (rs_wi5 (hX 0 (by decide))).1 rfl (Nat.le_of_ble_eq_true rfl) (Nat.le_refl _) (Nat.le_refl _) (c_Word_load (ys := n.2.2.1) (n0 := 45000) (rs_wi5 (hX 0 (by decide))) (rs_at (o := 2) (by decide)) (by decide) (by omega) (by omega) (fun j hj => c2 j hj) (by omega) (rs_bs_ok hu)) (fun r G' hq => ?_)
  obtain ⟨rfl, rfl⟩ := hq
  rw [rs_wp5]
  simp only [Option.toList, List.nil_append]
  generalize hX1 : va_up X 0 _ = X1
  have t0 : X1 0 = n.2.2.1 := by rw [← hX1, va_up_self]
  have tn : ∀ j, j ≠ 0 → X1 j = X j := fun j hj => by rw [← hX1, va_up_ne _ _ hj]
  have o1 : wd_ok 8 (X1 1) := by rw [tn 1 (by decide)]; exact hX 1 (by decide)
  refine rz_blk' [(.aload_n 0, 1, 0, 0), (.getfield 33, 3, 6, 3), (.aload_n 0, 1, 0, 0), (.getfield 14, 3, 6, 0), (.getfield 89, 3, 1, 0), (.iload_n 2, 1, 0, 0), (.iconst 1, 1, 0, 0), (.iadd, 1, 0, 0), (.bipush 7, 2, 0, 0), (.iadd, 1, 0, 0), (.bipush 7, 2, 0, 0), (.aload_n 0, 1, 0, 0), (.getfield 14, 3, 6, 0), (.getfield 89, 3, 1, 0), (.iload_n 2, 1, 0, 0), (.laload, 1, 0, 0)] (by decide +kernel) (Nat.le_refl _) (Nat.le_refl _) (fun K R hK hR => ?_)
  simp only [rw_b7, rw_c1, ↓rx_aload_n0, ↓rx_bipush, ↓rx_getfield, ↓rx_iadd, ↓rx_iconst, ↓rx_iload_n2, ↓rx_laload, ↓rx_nil, ↓ry_fvs, ↓ry_fvz, ↓ry_i2, ↓ry_lau, ↓ry_li0s, ↓ry_li0z, ↓ry_lr0s, ↓ry_lr0z, ↓ry_obu, ↓ry_r1, ↓ry_ri, ↓rs_ob, ↓rs_l2, ↓rs_i3, ↓rs_n3, ↓rs_l4, ↓rs_ob1, nI_add, rz_set, rz_nol, rz_clr, List.set_cons_zero, List.set_cons_succ, rz_tr, Nat.reduceAdd, Int.reduceAdd, Int.reduceToNat, Int.reduceSub, Int.reduceNeg, Int.cast_ofNat_Int]
  rw [nI_clamp (by omega), c1]
  refine ⟨vp_in_nI (by omega) (by decide), hK _ _ _ _ (rz_ldc2 (v := 255) (by decide +kernel) (rz_j4 202 rfl rfl) ?_)⟩
  refine rz_blk' [(.land, 1, 0, 0), (.l2i, 1, 0, 0)] (by decide +kernel) (Nat.le_refl _) (Nat.le_refl _) (fun K R hK hR => ?_)
  simp only [↓rx_l2i, ↓rx_land, ↓rx_nil, ↓ry_l1, ↓ry_l2, ↓rs_ob, ↓rs_l2, ↓rs_i3, ↓rs_n3, ↓rs_l4, ↓rs_ob1, rz_set, rz_nol, rz_clr, List.set_cons_zero, List.set_cons_succ, rz_tr, Nat.reduceAdd, Int.reduceAdd, Int.reduceToNat, Int.reduceSub, Int.reduceNeg, Int.cast_ofNat_Int]
  rw [e255, wb_mask (by omega) (by decide), lN_i, show rs_hd n % 2 ^ 8 = n.2.2.2.length by simp only [rs_hd]; omega]
  refine hK _ _ _ _ ?_
  refine rz_cV (As := [.ref (a + 2), .int (nI (i * 15 + 1 + 7)), .int (nI 7), .int (nI n.2.2.2.length)]) (b := a + 7) (S := []) l_Res_94 (by decide +kernel) rfl (rs_wi7 o1).1 rfl (Nat.le_of_ble_eq_true rfl) (Nat.le_refl _) (Nat.le_refl _) (c_Word_load (ys := n.2.2.2) (n0 := 45000) (rs_wi7 o1) (rs_at (o := 2) (by decide)) (by decide) (by omega) (by omega) (fun j hj => c3 j hj) (by omega) (rs_bs_ok hv)) (fun r G' hq => ?_)
  obtain ⟨rfl, rfl⟩ := hq
  rw [rs_wp7]
  simp only [Option.toList, List.nil_append]
  have hwr : rs_wr (va_up X1 1 n.2.2.2) n.2.2.1 n.2.2.2 := ⟨by rw [va_up_ne _ _ (by decide), t0], va_up_self .., by rw [va_up_ne _ _ (by decide), tn 2 (by decide)]; exact hX 2 (by decide), by rw [va_up_ne _ _ (by decide), tn 3 (by decide)]; exact hX 3 (by decide)⟩
  refine rz_blk' [(.iconst 0, 1, 0, 0), (.istore 5, 2, 0, 0)] (by decide +kernel) (Nat.le_refl _) (Nat.le_refl _) (fun K R hK hR => ?_)
  simp only [rw_c0, ↓rx_iconst, ↓rx_istore, ↓rx_nil, ↓ry_i1, ↓rs_ob, ↓rs_l2, ↓rs_i3, ↓rs_n3, ↓rs_l4, ↓rs_ob1, rz_set, rz_nol, rz_clr, List.set_cons_zero, List.set_cons_succ, rz_tr, Nat.reduceAdd, Int.reduceAdd, Int.reduceToNat, Int.reduceSub, Int.reduceNeg, Int.cast_ofNat_Int]
  refine hK _ _ _ _ ?_
  refine rs_sp_l h1 h3 hbd k1 k2 hu hv 3 0 S I A J _ none none none none rfl hS hwr (fun I' A' J' X' L hS' hX' => ?_)
  refine rz_blk' [(.return_, 1, 0, 0)] (by decide +kernel) (Nat.le_refl _) (Nat.le_refl _) (fun K R hK hR => ?_)
  simp only [↓rx_nil, ↓rx_return_, ↓rs_ob, ↓rs_l2, ↓rs_i3, ↓rs_n3, ↓rs_l4, ↓rs_ob1, rz_set, rz_nol, rz_clr, List.set_cons_zero, List.set_cons_succ, rz_tr, Nat.reduceAdd, Int.reduceAdd, Int.reduceToNat, Int.reduceSub, Int.reduceNeg, Int.cast_ofNat_Int]
  refine hR _ _ (rz_nb_i (by decide)) ⟨rfl, I', A', J', X', rfl, hS', fun j hj => ?_⟩
  obtain ⟨x0, x1, x2, x3⟩ := hX'
  have : j = 0 ∨ j = 1 ∨ j = 2 ∨ j = 3 := by omega
  rcases this with rfl | rfl | rfl | rfl
  · rw [x0]; exact rs_bs_ok hu
  · rw [x1]; exact rs_bs_ok hv
  · exact x2
  · exact x3

