/-! WriterDesk$PairSearch: spread -/
theorem ps_fld_get {m1 m2 : mv_T} {c1 c2 gr i : Nat} {x : ps_nd} : ∀ (ns : List ps_nd) (S : List ps_nd × Option Nat), S.1[i]? = some x → (ps_fld m1 m2 c1 c2 gr S ns).1[i]? = some x := by
  intro ns
  induction ns with
  | nil => intro S h; exact h
  | cons n ns ih => intro S h; exact ih _ (ps_vs_get h)
theorem ps_fld_app {m1 m2 : mv_T} {c1 c2 gr : Nat} {S : List ps_nd × Option Nat} {xs ys : List ps_nd} : ps_fld m1 m2 c1 c2 gr S (xs ++ ys) = ps_fld m1 m2 c1 c2 gr (ps_fld m1 m2 c1 c2 gr S xs) ys := List.foldl_append
section PSP
variable {w : rz_w} {d : Nat} {G : rz_G} {a : Nat} {J : Nat → Nat → Int64} {P : Nat → Nat} {A5 : Nat → Nat → Int32} {S1 S2 : mc_S} {m1 m2 : mv_T} {c1 c2 gr g l i0 : Nat} {n : ps_nd} {Q : Option Value → rz_G → Prop}
set_option maxRecDepth 100000 in
set_option maxHeartbeats 4000000 in
theorem ps_sp_i (h1 : mc_at' G (P 0) a 304 S1 m1 c1) (h2 : mc_at' G (P 1) a 304 S2 m2 c2) (hl : l < 3) (hn1 : n.1 < 6) (hn2 : n.2.1 < 6) (hsh : ps_sh m1 m2 c1 c2 l n) :
    ∀ (k i : Nat) (N : List ps_nd) (fd : Option Nat) (I : Nat → Int32) (A : Nat → Nat → Int32) (X : Nat → List Nat) (z1 z2 z3 : Option Value), (mv_pl m1 (mv_al m1 c1) (n.1 * 3 + l)).length + 1 ≤ i + k → i ≤ (mv_pl m1 (mv_al m1 c1) (n.1 * 3 + l)).length → ps_ss I A X N fd gr A5 → N[i0]? = some n →
      (∀ I A X z0 z1 z2 z3, ps_ss I A X (ps_fld m1 m2 c1 c2 gr (N, fd) (ps_c2 m1 m2 n ((mv_pl m1 (mv_al m1 c1) (n.1 * 3 + l)).drop i) (mv_pl m2 (mv_al m2 c2) (n.2.1 * 3 + l)))).1 (ps_fld m1 m2 c1 c2 gr (N, fd) (ps_c2 m1 m2 n ((mv_pl m1 (mv_al m1 c1) (n.1 * 3 + l)).drop i) (mv_pl m2 (mv_al m2 c2) (n.2.1 * 3 + l)))).2 gr A5 → rz_T w (d + 3) 0 0 m_Pair_spread 0 0 240 [some (.ref a), some (.int (nI g)), some (.int (nI l)), some (.int (nI i0)), some (.int (nI (n.1 * 3 + l))), some (.int (nI (n.2.1 * 3 + l))), z0, z1, z2, z3] [] (ps_put G a I A J X P) Q) →
      rz_T w (d + 3) 0 0 m_Pair_spread 0 0 92 [some (.ref a), some (.int (nI g)), some (.int (nI l)), some (.int (nI i0)), some (.int (nI (n.1 * 3 + l))), some (.int (nI (n.2.1 * 3 + l))), some (.int (nI ((mv_so m1 (mv_al m1 c1) (n.1 * 3 + l)).length + i))), z1, z2, z3] [] (ps_put G a I A J X P) Q := by
  intro k
  obtain ⟨-, hm1, hs1, ha1⟩ := id h1
  obtain ⟨-, hm2, hs2, ha2⟩ := id h2
  unfold mc_ap at ha1 ha2
  obtain ⟨p1, p2, p3, p4⟩ := mv_row hs1 (show n.1 * 3 + l < 18 by omega)
  obtain ⟨r1, r2, r3, r4⟩ := mv_row hs2 (show n.2.1 * 3 + l < 18 by omega)
  have n1 := hm1.2.2.2.2.1
  have n2 := hm2.2.2.2.2.1
  have hj := fun i e q q2 => @ps_sp_j w d G a J P A5 S1 S2 m1 m2 c1 c2 gr g l i0 n Q h1 h2 hl hn1 hn2 hsh i e q q2
  generalize hpl1 : mv_pl m1 (mv_al m1 c1) (n.1 * 3 + l) = pl1 at *
  generalize hso1 : (mv_so m1 (mv_al m1 c1) (n.1 * 3 + l)).length = so1 at *
  generalize hpl2 : mv_pl m2 (mv_al m2 c2) (n.2.1 * 3 + l) = pl2 at *
  generalize hso2 : (mv_so m2 (mv_al m2 c2) (n.2.1 * 3 + l)).length = so2 at *
  induction k with
  | zero => intro i N fd I A X y1 y2 y3 q1 q2; omega
  | succ k ih =>
    intro i N fd I A X y1 y2 y3 hk hi hS hN0 hc
    have hmc1 := ps_mc (a := a) (I := I) (A := A) (J := J) (X := X) (P := P) h1
    have hmc2 := ps_mc (a := a) (I := I) (A := A) (J := J) (X := X) (P := P) h2
    have ob1 : (ps_put G a I A J X P) (P 0) = some (.inr (2, mc_fs (P 0) S1.1 S1.2.2.2.2)) := hmc1 0 (by decide)
    have ob2 : (ps_put G a I A J X P) (P 1) = some (.inr (2, mc_fs (P 1) S2.1 S2.2.2.2.2)) := hmc2 0 (by decide)
    have b1 : (ps_put G a I A J X P) (P 0 + 9) = some (.inl (0, 19, .inl (S1.2.1 4))) := hmc1 9 (by decide)
    have b2 : (ps_put G a I A J X P) (P 1 + 9) = some (.inl (0, 19, .inl (S2.2.1 4))) := hmc2 9 (by decide)
    refine rz_blk' [(.iload 6, 2, 0, 0), (.aload_n 0, 1, 0, 0), (.getfield 59, 3, 4, 0), (.getfield 107, 3, 2, 12), (.iload 4, 2, 0, 0), (.iconst 1, 1, 0, 0), (.iadd, 1, 0, 0), (.iaload, 1, 0, 0), (.if_icmp .ge 134, 3, 0, 0), (.aload_n 0, 1, 0, 0), (.getfield 63, 3, 4, 1), (.getfield 107, 3, 2, 12), (.iload 5, 2, 0, 0), (.iaload, 1, 0, 0), (.istore 7, 2, 0, 0)] (by decide +kernel) (Nat.le_refl _) (Nat.le_refl _) (fun K R hK hR => ?_)
    simp only [rw_c1, ↓rx_aload_n0, ↓rx_getfield, ↓rx_iadd, ↓rx_iaload, ↓rx_iconst, ↓rx_if_icmp_ge, ↓rx_iload, ↓rx_istore, ↓rx_nil, ↓ry_fvs, ↓ry_fvz, ↓ry_i1, ↓ry_i2, ↓ry_iau, ↓ry_li0s, ↓ry_li0z, ↓ry_lr0s, ↓ry_lr0z, ↓ry_obu, ↓ry_r1, ↓ry_ri, true_and, ↓ps_ob, ↓ps_i1, ↓ps_n1, ↓ps_i2, ↓ps_n2, ↓ps_i3, ↓ps_n3, ↓ps_r4, ↓ps_r5, ↓ps_i6, ↓ps_n6, ↓ps_i7, ↓ps_n7, ↓ps_i8, ↓ps_n8, ↓ps_i9, ↓ps_n9, ↓ps_i10, ↓ps_n10, ↓ps_i11, ↓ps_n11, ↓rh_ob ob1, ↓rh_ob ob2, ↓rh_ia b1, ↓rh_ia b2, nI_add, rz_set, rz_nol, rz_clr, List.set_cons_zero, List.set_cons_succ, rz_tr, Nat.reduceAdd, Int.reduceAdd, Int.reduceToNat, Int.reduceSub, Int.reduceNeg, Int.cast_ofNat_Int]
    rw [nI_clamp (n := n.1 * 3 + l + 1) (by omega), p2, nI_leI (by omega) (by omega)]
    refine ⟨vp_in_nI (by omega) (by decide), fun c1 => hK _ _ _ _ ?_, fun c1 => ?_⟩
    · have e0 : pl1.drop i = [] := List.drop_of_length_le (by omega)
      rw [e0] at hc
      exact hc I A X _ _ _ _ hS
    have hil : i < pl1.length := by omega
    obtain ⟨e, hie⟩ : ∃ e, pl1[i]? = some e := ⟨_, List.getElem?_eq_getElem hil⟩
    have hdr : pl1.drop i = e :: pl1.drop (i + 1) := by
      rw [List.drop_eq_getElem_cons hil]
      congr 1
      rw [List.getElem?_eq_getElem hil] at hie
      exact Option.some.inj hie
    rw [hdr] at hc
    simp only [ps_c2, List.flatMap_cons, ps_fld_app] at hc
    rw [nI_clamp (by omega), r1]
    refine ⟨vp_in_nI (by omega) (by decide), hK _ _ _ _ ?_⟩
    have hjj := hj i e hil hie (pl2.length + 1) 0 N fd I A X y2 y3 (by omega) (by omega) hS hN0
    simp only [Nat.add_zero, List.drop_zero] at hjj
    refine hjj (fun I' A' X' x1 x2 x3 hS' hN' => ?_)
    generalize ps_fld m1 m2 _ c2 gr (N, fd) (pl2.map (fun f => ps_go m1 m2 n e f)) = S3 at hS' hN' hc
    refine rz_blk' [(.iinc 6 1, 3, 0, 0), (.goto (-145), 3, 0, 0)] (by decide +kernel) (Nat.le_refl _) (Nat.le_refl _) (fun K R hK hR => ?_)
    simp only [rw_c1, ↓rx_goto, ↓rx_iinc, ↓rx_nil, ↓ry_li0s, ↓ry_li0z, ↓ps_ob, ↓ps_i1, ↓ps_n1, ↓ps_i2, ↓ps_n2, ↓ps_i3, ↓ps_n3, ↓ps_r4, ↓ps_r5, ↓ps_i6, ↓ps_n6, ↓ps_i7, ↓ps_n7, ↓ps_i8, ↓ps_n8, ↓ps_i9, ↓ps_n9, ↓ps_i10, ↓ps_n10, ↓ps_i11, ↓ps_n11, nI_add, rz_set, rz_nol, rz_clr, List.set_cons_zero, List.set_cons_succ, rz_tr, Nat.reduceAdd, Int.reduceAdd, Int.reduceToNat, Int.reduceSub, Int.reduceNeg, Int.cast_ofNat_Int]
    rw [Nat.add_assoc]
    exact hK _ _ _ _ (ih (i + 1) S3.1 S3.2 I' A' X' _ _ _ (by omega) (by omega) hS' hN' hc)

def ps_spr (m1 m2 : mv_T) (c1 c2 gr l : Nat) (S : List ps_nd × Option Nat) (ns : List ps_nd) : List ps_nd × Option Nat := ns.foldl (fun S n => ps_fld m1 m2 c1 c2 gr S (ps_nx m1 m2 c1 c2 l n)) S
theorem ps_spr_get {m1 m2 : mv_T} {c1 c2 gr l i : Nat} {x : ps_nd} : ∀ (ns : List ps_nd) (S : List ps_nd × Option Nat), S.1[i]? = some x → (ps_spr m1 m2 c1 c2 gr l S ns).1[i]? = some x := by
  intro ns
  induction ns with
  | nil => intro S h; exact h
  | cons n ns ih => intro S h; exact ih _ (ps_fld_get _ _ h)
set_option maxRecDepth 100000 in
set_option maxHeartbeats 4000000 in
theorem ps_sp_n (h1 : mc_at' G (P 0) a 304 S1 m1 c1) (h2 : mc_at' G (P 1) a 304 S2 m2 c2) (hl : l < 3) {st : Nat} {gn : List ps_nd} (hg : g < 72) (hb2 : A5 5 (g + 1) = nI (st + gn.length)) (hst : st + gn.length ≤ 72) (hok : ∀ n ∈ gn, ps_sh m1 m2 c1 c2 l n) :
    ∀ (k j : Nat) (N : List ps_nd) (fd : Option Nat) (I : Nat → Int32) (A : Nat → Nat → Int32) (X : Nat → List Nat) (z4 z5 z6 z7 z8 z9 : Option Value), gn.length + 1 ≤ j + k → j ≤ gn.length → ps_ss I A X N fd gr A5 → (∀ j n, gn[j]? = some n → N[st + j]? = some n) →
      (∀ I A X L, ps_ss I A X (ps_spr m1 m2 c1 c2 gr l (N, fd) (gn.drop j)).1 (ps_spr m1 m2 c1 c2 gr l (N, fd) (gn.drop j)).2 gr A5 → rz_T w (d + 3) 0 0 m_Pair_spread 0 0 246 L [] (ps_put G a I A J X P) Q) →
      rz_T w (d + 3) 0 0 m_Pair_spread 0 0 44 [some (.ref a), some (.int (nI g)), some (.int (nI l)), some (.int (nI (st + j))), z4, z5, z6, z7, z8, z9] [] (ps_put G a I A J X P) Q := by
  intro k
  induction k with
  | zero => intro j N fd I A X y4 y5 y6 y7 y8 y9 q1 q2; omega
  | succ k ih =>
    intro j N fd I A X y4 y5 y6 y7 y8 y9 hk hj hS hN hc
    have hmc1 := ps_mc (a := a) (I := I) (A := A) (J := J) (X := X) (P := P) h1
    have ob1 : (ps_put G a I A J X P) (P 0) = some (.inr (2, mc_fs (P 0) S1.1 S1.2.2.2.2)) := hmc1 0 (by decide)
    have b1 : (ps_put G a I A J X P) (P 0 + 9) = some (.inl (0, 19, .inl (S1.2.1 4))) := hmc1 9 (by decide)
    obtain ⟨ns, i1, gr72, i2, fdb, a5⟩ := id hS
    have e5 : A 5 (g + 1) = nI (st + gn.length) := by rw [a5 5 (by decide)]; exact hb2
    refine rz_blk' [(.iload_n 3, 1, 0, 0), (.aload_n 0, 1, 0, 0), (.getfield 37, 3, 4, 11), (.iload_n 1, 1, 0, 0), (.iconst 1, 1, 0, 0), (.iadd, 1, 0, 0), (.iaload, 1, 0, 0), (.if_icmp .ge 193, 3, 0, 0)] (by decide +kernel) (Nat.le_refl _) (Nat.le_refl _) (fun K R hK hR => ?_)
    simp only [rw_c1, ↓rx_aload_n0, ↓rx_getfield, ↓rx_iadd, ↓rx_iaload, ↓rx_iconst, ↓rx_if_icmp_ge, ↓rx_iload_n1, ↓rx_iload_n3, ↓rx_nil, ↓ry_fvs, ↓ry_fvz, ↓ry_i2, ↓ry_iau, ↓ry_li0s, ↓ry_li0z, ↓ry_lr0s, ↓ry_lr0z, ↓ry_obu, ↓ry_r1, ↓ry_ri, true_and, ↓ps_ob, ↓ps_i1, ↓ps_n1, ↓ps_i2, ↓ps_n2, ↓ps_i3, ↓ps_n3, ↓ps_r4, ↓ps_r5, ↓ps_i6, ↓ps_n6, ↓ps_i7, ↓ps_n7, ↓ps_i8, ↓ps_n8, ↓ps_i9, ↓ps_n9, ↓ps_i10, ↓ps_n10, ↓ps_i11, ↓ps_n11, nI_add, rz_set, rz_nol, rz_clr, List.set_cons_zero, List.set_cons_succ, rz_tr, Nat.reduceAdd, Int.reduceAdd, Int.reduceToNat, Int.reduceSub, Int.reduceNeg, Int.cast_ofNat_Int]
    rw [nI_clamp (by omega), e5, nI_leI (by omega) (by omega)]
    refine ⟨vp_in_nI (by omega) (by decide), fun q1 => hK _ _ _ _ ?_, fun q1 => hK _ _ _ _ ?_⟩
    · have e0 : gn.drop j = [] := List.drop_of_length_le (by omega)
      rw [e0] at hc
      exact hc I A X _ hS
    have hjl : j < gn.length := by omega
    obtain ⟨n, hjn⟩ : ∃ n, gn[j]? = some n := ⟨_, List.getElem?_eq_getElem hjl⟩
    have hdr : gn.drop j = n :: gn.drop (j + 1) := by
      rw [List.drop_eq_getElem_cons hjl]
      congr 1
      rw [List.getElem?_eq_getElem hjl] at hjn
      exact Option.some.inj hjn
    rw [hdr] at hc
    simp only [ps_spr, List.foldl_cons] at hc
    obtain ⟨n0, n1, n2, n3, n4, n5, n6⟩ := ns.2.2.2.1 _ n (hN j n hjn)
    obtain ⟨p1, p2, p3, p4⟩ := mv_row h1.2.2.1 (show n.1 * 3 + l < 18 by omega)
    refine rz_blk' [(.aload_n 0, 1, 0, 0), (.getfield 11, 3, 4, 3), (.iload_n 3, 1, 0, 0), (.iaload, 1, 0, 0), (.iconst 3, 1, 0, 0), (.imul, 1, 0, 0), (.iload_n 2, 1, 0, 0), (.iadd, 1, 0, 0), (.istore 4, 2, 0, 0)] (by decide +kernel) (Nat.le_refl _) (Nat.le_refl _) (fun K R hK hR => ?_)
    simp only [rw_c3, ↓rx_aload_n0, ↓rx_getfield, ↓rx_iadd, ↓rx_iaload, ↓rx_iconst, ↓rx_iload_n2, ↓rx_iload_n3, ↓rx_imul, ↓rx_istore, ↓rx_nil, ↓ry_fvs, ↓ry_fvz, ↓ry_i1, ↓ry_i2, ↓ry_iau, ↓ry_li0s, ↓ry_li0z, ↓ry_lr0s, ↓ry_lr0z, ↓ry_obu, ↓ry_r1, ↓ry_ri, true_and, ↓ps_ob, ↓ps_i1, ↓ps_n1, ↓ps_i2, ↓ps_n2, ↓ps_i3, ↓ps_n3, ↓ps_r4, ↓ps_r5, ↓ps_i6, ↓ps_n6, ↓ps_i7, ↓ps_n7, ↓ps_i8, ↓ps_n8, ↓ps_i9, ↓ps_n9, ↓ps_i10, ↓ps_n10, ↓ps_i11, ↓ps_n11, pk_mul, nI_add, rz_set, rz_nol, rz_clr, List.set_cons_zero, List.set_cons_succ, rz_tr, Nat.reduceAdd, Int.reduceAdd, Int.reduceToNat, Int.reduceSub, Int.reduceNeg, Int.cast_ofNat_Int]
    rw [nI_clamp (by omega), n0, pk_mul, nI_add]
    refine ⟨vp_in_nI (by omega) (by decide), hK _ _ _ _ ?_⟩
    refine rz_blk' [(.aload_n 0, 1, 0, 0), (.getfield 15, 3, 4, 4), (.iload_n 3, 1, 0, 0), (.iaload, 1, 0, 0), (.iconst 3, 1, 0, 0), (.imul, 1, 0, 0), (.iload_n 2, 1, 0, 0), (.iadd, 1, 0, 0), (.istore 5, 2, 0, 0)] (by decide +kernel) (Nat.le_refl _) (Nat.le_refl _) (fun K R hK hR => ?_)
    simp only [rw_c3, ↓rx_aload_n0, ↓rx_getfield, ↓rx_iadd, ↓rx_iaload, ↓rx_iconst, ↓rx_iload_n2, ↓rx_iload_n3, ↓rx_imul, ↓rx_istore, ↓rx_nil, ↓ry_fvs, ↓ry_fvz, ↓ry_i1, ↓ry_i2, ↓ry_iau, ↓ry_li0s, ↓ry_li0z, ↓ry_lr0s, ↓ry_lr0z, ↓ry_obu, ↓ry_r1, ↓ry_ri, true_and, ↓ps_ob, ↓ps_i1, ↓ps_n1, ↓ps_i2, ↓ps_n2, ↓ps_i3, ↓ps_n3, ↓ps_r4, ↓ps_r5, ↓ps_i6, ↓ps_n6, ↓ps_i7, ↓ps_n7, ↓ps_i8, ↓ps_n8, ↓ps_i9, ↓ps_n9, ↓ps_i10, ↓ps_n10, ↓ps_i11, ↓ps_n11, pk_mul, nI_add, rz_set, rz_nol, rz_clr, List.set_cons_zero, List.set_cons_succ, rz_tr, Nat.reduceAdd, Int.reduceAdd, Int.reduceToNat, Int.reduceSub, Int.reduceNeg, Int.cast_ofNat_Int]
    rw [nI_clamp (by omega), n1, pk_mul, nI_add]
    refine ⟨vp_in_nI (by omega) (by decide), hK _ _ _ _ ?_⟩
    refine rz_blk' [(.aload_n 0, 1, 0, 0), (.getfield 59, 3, 4, 0), (.getfield 107, 3, 2, 12), (.iload 4, 2, 0, 0), (.iaload, 1, 0, 0), (.istore 6, 2, 0, 0)] (by decide +kernel) (Nat.le_refl _) (Nat.le_refl _) (fun K R hK hR => ?_)
    simp only [↓rx_aload_n0, ↓rx_getfield, ↓rx_iaload, ↓rx_iload, ↓rx_istore, ↓rx_nil, ↓ry_fvs, ↓ry_fvz, ↓ry_i1, ↓ry_iau, ↓ry_li0s, ↓ry_li0z, ↓ry_lr0s, ↓ry_lr0z, ↓ry_obu, ↓ry_r1, ↓ry_ri, true_and, ↓ps_ob, ↓ps_i1, ↓ps_n1, ↓ps_i2, ↓ps_n2, ↓ps_i3, ↓ps_n3, ↓ps_r4, ↓ps_r5, ↓ps_i6, ↓ps_n6, ↓ps_i7, ↓ps_n7, ↓ps_i8, ↓ps_n8, ↓ps_i9, ↓ps_n9, ↓ps_i10, ↓ps_n10, ↓ps_i11, ↓ps_n11, ↓rh_ob ob1, ↓rh_ia b1, rz_set, rz_nol, rz_clr, List.set_cons_zero, List.set_cons_succ, rz_tr, Nat.reduceAdd, Int.reduceAdd, Int.reduceToNat, Int.reduceSub, Int.reduceNeg, Int.cast_ofNat_Int]
    rw [nI_clamp (by omega), p1]
    refine ⟨vp_in_nI (by omega) (by decide), hK _ _ _ _ ?_⟩
    have hii := ps_sp_i (w := w) (d := d) (J := J) (g := g) (i0 := st + j) (Q := Q) h1 h2 hl n5 n6 (hok n (List.mem_of_getElem? hjn)) ((mv_pl m1 (mv_al m1 c1) (n.1 * 3 + l)).length + 1) 0 N fd I A X y7 y8 y9 (by omega) (by omega) hS (hN j n hjn)
    simp only [Nat.add_zero, List.drop_zero] at hii
    refine hii (fun I' A' X' x0 x1 x2 x3 hS' => ?_)
    refine rz_blk' [(.iinc 3 1, 3, 0, 0), (.goto (-199), 3, 0, 0)] (by decide +kernel) (Nat.le_refl _) (Nat.le_refl _) (fun K R hK hR => ?_)
    simp only [rw_c1, ↓rx_goto, ↓rx_iinc, ↓rx_nil, ↓ry_li0s, ↓ry_li0z, ↓ps_ob, ↓ps_i1, ↓ps_n1, ↓ps_i2, ↓ps_n2, ↓ps_i3, ↓ps_n3, ↓ps_r4, ↓ps_r5, ↓ps_i6, ↓ps_n6, ↓ps_i7, ↓ps_n7, ↓ps_i8, ↓ps_n8, ↓ps_i9, ↓ps_n9, ↓ps_i10, ↓ps_n10, ↓ps_i11, ↓ps_n11, nI_add, rz_set, rz_nol, rz_clr, List.set_cons_zero, List.set_cons_succ, rz_tr, Nat.reduceAdd, Int.reduceAdd, Int.reduceToNat, Int.reduceSub, Int.reduceNeg, Int.cast_ofNat_Int]
    rw [Nat.add_assoc]
    exact hK _ _ _ _ (ih (j + 1) _ _ I' A' X' _ _ _ _ _ _ (by omega) (by omega) hS' (fun j' n' hn' => ps_fld_get _ _ (hN j' n' hn')) hc)
end PSP
def ps_a3' (A5 : Nat → Nat → Int32) (gr g l len : Nat) : Nat → Nat → Int32 := va_up (va_up (va_up A5 6 (upd (A5 6) gr (nI g))) 7 (upd (A5 7) gr (nI l))) 8 (upd (A5 8) gr (nI (len + 1)))

set_option maxRecDepth 100000 in
set_option maxHeartbeats 4000000 in
/-- spread(group, letter) -/
theorem c_Pair_spread {w : rz_w} {d : Nat} {G : rz_G} {a : Nat} {I : Nat → Int32} {A : Nat → Nat → Int32} {J : Nat → Nat → Int64} {X : Nat → List Nat} {P : Nat → Nat} {A5 : Nat → Nat → Int32} {S1 S2 : mc_S} {m1 m2 : mv_T} {c1 c2 gr g l len st : Nat} {N gn : List ps_nd} {fd : Option Nat} (h1 : mc_at' G (P 0) a 304 S1 m1 c1) (h2 : mc_at' G (P 1) a 304 S2 m2 c2) (hl : l < 3) (hS : ps_ss I A X N fd gr A5) (hg : g < gr) (hb1 : A5 5 g = nI st) (hb2 : A5 5 (g + 1) = nI (st + gn.length)) (hst : st + gn.length ≤ 72) (hlen : A5 8 g = nI len) (hN : ∀ j n, gn[j]? = some n → N[st + j]? = some n) (hok : ∀ n ∈ gn, ps_sh m1 m2 c1 c2 l n) :
    rz_C w (d + 3) 0 0 y_Pair_spread m_Pair_spread [.ref a, .int (nI g), .int (nI l)] (ps_put G a I A J X P) (fun r G' => r = none ∧ ∃ I' A' X', G' = ps_put G a I' A' J X' P ∧ ps_ss I' A' X' (ps_spr m1 m2 c1 c2 gr l (N, fd) gn).1 (ps_spr m1 m2 c1 c2 gr l (N, fd) gn).2 gr (ps_a3' A5 gr g l len)) := by
  obtain ⟨ns, i1, gr72, i2, fdb, a5⟩ := id hS
  have a55 : A 5 g = nI st := by rw [a5 5 (by decide)]; exact hb1
  have a58 : A 8 g = nI len := by rw [a5 8 (by decide)]; exact hlen
  refine rz_enter' [some (.ref a), some (.int (nI g)), some (.int (nI l)), none, none, none, none, none, none, none] (by decide +kernel) rfl rfl (Nat.le_of_ble_eq_true rfl) rfl ?_
  refine rz_blk' [(.aload_n 0, 1, 0, 0), (.getfield 40, 3, 4, 12), (.aload_n 0, 1, 0, 0), (.getfield 70, 3, 4, 10), (.iload_n 1, 1, 0, 0), (.iastore, 1, 0, 0)] (by decide +kernel) (Nat.le_refl _) (Nat.le_refl _) (fun K R hK hR => ?_)
  simp only [↓rx_aload_n0, ↓rx_getfield, ↓rx_iastore, ↓rx_iload_n1, ↓rx_nil, ↓ry_fvs, ↓ry_fvz, ↓ry_iau, ↓ry_li0s, ↓ry_li0z, ↓ry_lr0s, ↓ry_lr0z, ↓ry_obu, ↓ry_r1, ↓ry_rii, true_and, ↓ps_ob, ↓ps_i1, ↓ps_n1, ↓ps_i2, ↓ps_n2, ↓ps_i3, ↓ps_n3, ↓ps_r4, ↓ps_r5, ↓ps_i6, ↓ps_n6, ↓ps_i7, ↓ps_n7, ↓ps_i8, ↓ps_n8, ↓ps_i9, ↓ps_n9, ↓ps_i10, ↓ps_n10, ↓ps_i11, ↓ps_n11, ps_a9, i1, rz_set, rz_nol, rz_clr, List.set_cons_zero, List.set_cons_succ, rz_tr, Nat.reduceAdd, Int.reduceAdd, Int.reduceToNat, Int.reduceSub, Int.reduceNeg, Int.cast_ofNat_Int]
  rw [nI_clamp (by omega)]
  refine ⟨vp_in_nI (by omega) (by decide), hK _ _ _ _ ?_⟩
  refine rz_blk' [(.aload_n 0, 1, 0, 0), (.getfield 43, 3, 4, 13), (.aload_n 0, 1, 0, 0), (.getfield 70, 3, 4, 10), (.iload_n 2, 1, 0, 0), (.iastore, 1, 0, 0)] (by decide +kernel) (Nat.le_refl _) (Nat.le_refl _) (fun K R hK hR => ?_)
  simp only [↓rx_aload_n0, ↓rx_getfield, ↓rx_iastore, ↓rx_iload_n2, ↓rx_nil, ↓ry_fvs, ↓ry_fvz, ↓ry_iau, ↓ry_li0s, ↓ry_li0z, ↓ry_lr0s, ↓ry_lr0z, ↓ry_obu, ↓ry_r1, ↓ry_rii, true_and, ↓ps_ob, ↓ps_i1, ↓ps_n1, ↓ps_i2, ↓ps_n2, ↓ps_i3, ↓ps_n3, ↓ps_r4, ↓ps_r5, ↓ps_i6, ↓ps_n6, ↓ps_i7, ↓ps_n7, ↓ps_i8, ↓ps_n8, ↓ps_i9, ↓ps_n9, ↓ps_i10, ↓ps_n10, ↓ps_i11, ↓ps_n11, ps_a10, i1, rz_set, rz_nol, rz_clr, List.set_cons_zero, List.set_cons_succ, rz_tr, Nat.reduceAdd, Int.reduceAdd, Int.reduceToNat, Int.reduceSub, Int.reduceNeg, Int.cast_ofNat_Int]
  rw [nI_clamp (by omega)]
  refine ⟨vp_in_nI (by omega) (by decide), hK _ _ _ _ ?_⟩
  refine rz_blk' [(.aload_n 0, 1, 0, 0), (.getfield 46, 3, 4, 14), (.aload_n 0, 1, 0, 0), (.getfield 70, 3, 4, 10), (.aload_n 0, 1, 0, 0), (.getfield 46, 3, 4, 14), (.iload_n 1, 1, 0, 0), (.iaload, 1, 0, 0), (.iconst 1, 1, 0, 0), (.iadd, 1, 0, 0), (.iastore, 1, 0, 0)] (by decide +kernel) (Nat.le_refl _) (Nat.le_refl _) (fun K R hK hR => ?_)
  simp only [rw_c1, ↓rx_aload_n0, ↓rx_getfield, ↓rx_iadd, ↓rx_iaload, ↓rx_iastore, ↓rx_iconst, ↓rx_iload_n1, ↓rx_nil, ↓ry_fvs, ↓ry_fvz, ↓ry_i2, ↓ry_iau, ↓ry_li0s, ↓ry_li0z, ↓ry_lr0s, ↓ry_lr0z, ↓ry_obu, ↓ry_r1, ↓ry_ri, ↓ry_rii, true_and, ↓ps_ob, ↓ps_i1, ↓ps_n1, ↓ps_i2, ↓ps_n2, ↓ps_i3, ↓ps_n3, ↓ps_r4, ↓ps_r5, ↓ps_i6, ↓ps_n6, ↓ps_i7, ↓ps_n7, ↓ps_i8, ↓ps_n8, ↓ps_i9, ↓ps_n9, ↓ps_i10, ↓ps_n10, ↓ps_i11, ↓ps_n11, ps_a11, i1, rz_set, rz_nol, rz_clr, List.set_cons_zero, List.set_cons_succ, rz_tr, Nat.reduceAdd, Int.reduceAdd, Int.reduceToNat, Int.reduceSub, Int.reduceNeg, Int.cast_ofNat_Int]
  rw [nI_clamp (by omega), nI_clamp (by omega), va_up_ne _ _ (by decide), va_up_ne _ _ (by decide), va_up_ne _ _ (by decide), a58, nI_add]
  refine ⟨vp_in_nI (by omega) (by decide), vp_in_nI (by omega) (by decide), hK _ _ _ _ ?_⟩
  generalize hA2 : va_up (va_up (va_up A 6 _) 7 _) 8 _ = A2
  have t : ∀ k, k < 6 → A2 k = A k := by
    intro k hk
    rw [← hA2, va_up_ne _ _ (by omega), va_up_ne _ _ (by omega), va_up_ne _ _ (by omega)]
  have hS2 : ps_ss I A2 X N fd gr (ps_a3' A5 gr g l len) := by
    refine ⟨⟨ns.1, ns.2.1, ns.2.2.1, ?_, ?_⟩, i1, gr72, i2, fdb, ?_⟩
    · rw [t 0 (by decide), t 1 (by decide), t 2 (by decide)]; exact ns.2.2.2.1
    · rw [t 3 (by decide), t 4 (by decide)]; exact ns.2.2.2.2
    · intro k hk
      rw [← hA2]
      simp only [ps_a3', va_up]
      by_cases k8 : k = 8
      · subst k8; simp [a5 8 (by decide)]
      · by_cases k7 : k = 7
        · subst k7; simp [a5 7 (by decide)]
        · by_cases k6 : k = 6
          · subst k6; simp [a5 6 (by decide)]
          · simp [k8, k7, k6, a5 k hk]
  have b1' : A2 5 g = nI st := by rw [t 5 (by decide)]; exact a55
  have b2' : ps_a3' A5 gr g l len 5 (g + 1) = nI (st + gn.length) := by
    simp only [ps_a3', va_up]; simpa using hb2
  refine rz_blk' [(.aload_n 0, 1, 0, 0), (.getfield 37, 3, 4, 11), (.iload_n 1, 1, 0, 0), (.iaload, 1, 0, 0), (.istore_n 3, 1, 0, 0)] (by decide +kernel) (Nat.le_refl _) (Nat.le_refl _) (fun K R hK hR => ?_)
  simp only [↓rx_aload_n0, ↓rx_getfield, ↓rx_iaload, ↓rx_iload_n1, ↓rx_istore_n3, ↓rx_nil, ↓ry_fvs, ↓ry_fvz, ↓ry_i1, ↓ry_iau, ↓ry_li0s, ↓ry_li0z, ↓ry_lr0s, ↓ry_lr0z, ↓ry_obu, ↓ry_r1, ↓ry_ri, true_and, ↓ps_ob, ↓ps_i1, ↓ps_n1, ↓ps_i2, ↓ps_n2, ↓ps_i3, ↓ps_n3, ↓ps_r4, ↓ps_r5, ↓ps_i6, ↓ps_n6, ↓ps_i7, ↓ps_n7, ↓ps_i8, ↓ps_n8, ↓ps_i9, ↓ps_n9, ↓ps_i10, ↓ps_n10, ↓ps_i11, ↓ps_n11, rz_set, rz_nol, rz_clr, List.set_cons_zero, List.set_cons_succ, rz_tr, Nat.reduceAdd, Int.reduceAdd, Int.reduceToNat, Int.reduceSub, Int.reduceNeg, Int.cast_ofNat_Int]
  rw [nI_clamp (by omega), b1']
  refine ⟨vp_in_nI (by omega) (by decide), hK _ _ _ _ ?_⟩
  have hnn := ps_sp_n (w := w) (d := d) (G := G) (a := a) (J := J) (P := P) (g := g) (gr := gr) (A5 := ps_a3' A5 gr g l len) (Q := fun r G' => r = none ∧ ∃ I' A' X', G' = ps_put G a I' A' J X' P ∧ ps_ss I' A' X' (ps_spr m1 m2 c1 c2 gr l (N, fd) gn).1 (ps_spr m1 m2 c1 c2 gr l (N, fd) gn).2 gr (ps_a3' A5 gr g l len)) h1 h2 hl (by omega) b2' hst hok (gn.length + 1) 0 N fd I A2 X none none none none none none (by omega) (by omega) hS2 hN
  simp only [Nat.add_zero, List.drop_zero] at hnn
  refine hnn (fun I' A' X' L hS' => ?_)
  refine rz_blk' [(.return_, 1, 0, 0)] (by decide +kernel) (Nat.le_refl _) (Nat.le_refl _) (fun K R hK hR => ?_)
  simp only [↓rx_nil, ↓rx_return_, ↓ps_ob, ↓ps_i1, ↓ps_n1, ↓ps_i2, ↓ps_n2, ↓ps_i3, ↓ps_n3, ↓ps_r4, ↓ps_r5, ↓ps_i6, ↓ps_n6, ↓ps_i7, ↓ps_n7, ↓ps_i8, ↓ps_n8, ↓ps_i9, ↓ps_n9, ↓ps_i10, ↓ps_n10, ↓ps_i11, ↓ps_n11, rz_set, rz_nol, rz_clr, List.set_cons_zero, List.set_cons_succ, rz_tr, Nat.reduceAdd, Int.reduceAdd, Int.reduceToNat, Int.reduceSub, Int.reduceNeg, Int.cast_ofNat_Int]
  exact hR _ _ (rz_nb_i (by decide)) ⟨rfl, I', A', X', rfl, hS'⟩

