/-! WriterDesk: edge, last -/
def dk_eok (m : mv_T) (f l t n : Int32) : Prop := (∃ j, j < m.1 ∧ f = nI j) ∧ (∃ j, j < m.1 ∧ t = nI j) ∧ (∃ j, j < 3 ∧ l = nI j) ∧ ∃ j, j ≤ 3 ∧ n = nI j
def dk_ae (m : mv_T) (f l t : Nat) (ws : List Nat) : mv_T := (m.1, m.2.1 ++ [(f, l, t, ws)], m.2.2.1, m.2.2.2)
theorem hp_andb : ∀ s, s < 64 → ∀ q, q < 6 → ∀ p, p < 6 → (s &&& (63 - 2 ^ q)).testBit p = (decide (p ≠ q) && s.testBit p) := by decide +kernel
theorem hp_orb : ∀ s, s < 64 → ∀ q, q < 6 → ∀ p, p < 6 → (s ||| 2 ^ q).testBit p = (decide (p = q) || s.testBit p) := by decide +kernel
theorem hp_andc64 : ∀ s, s < 64 → ∀ q, q < 6 → s &&& (63 - 2 ^ q) < 64 := by decide +kernel

set_option maxRecDepth 100000 in
set_option maxHeartbeats 4000000 in
theorem c_Desk_edge {w : rz_w} {d : Nat} {G : rz_G} {z : Nat} {V : dk_V} (h : dk G z V) (x yf yl yt yn u : Int32)  : ru_C w (d + 9) 1 6 y_Desk_edge m_Desk_edge [.ref z, .int x, .int yf, .int yl, .int yt, .int yn, .int u] G (ru_V V z G (fun r V' => ∃ k f l t n, k < 6 ∧ f < (V.1 k).1 ∧ t < (V.1 k).1 ∧ l < 3 ∧ n ≤ 3 ∧ (V.1 k).2.1.length < 24 ∧ x = nI k ∧ yf = nI f ∧ yl = nI l ∧ yt = nI t ∧ yn = nI n ∧ r = some (.int (nI (V.1 k).2.1.length)) ∧ V' = dk_um V k (dk_ae (V.1 k) f l t (wd_told u.toBitVec.toNat n))) (fun c => (c = 0 ∧ dk_no x) ∨ ∃ k, k < 6 ∧ x = nI k ∧ ((c = 1 ∧ ¬ dk_eok (V.1 k) yf yl yt yn) ∨ (c = 2 ∧ dk_eok (V.1 k) yf yl yt yn ∧ 24 ≤ (V.1 k).2.1.length)))) := by
  obtain ⟨hob, hma⟩ := h 0 (by decide)
  refine ru_enter [some (.ref z), some (.int x), some (.int yf), some (.int yl), some (.int yt), some (.int yn), some (.int u), none, none] rfl (by decide +kernel) rfl rfl (Nat.le_of_ble_eq_true rfl) rfl ?_
  refine ru_blk' [(.aload_n 0, 1, 0, 0), (.iload_n 1, 1, 0, 0)] (by decide +kernel) (Nat.zero_le _) (Nat.zero_le _) (fun K R hK hR => ?_)
  simp only [↓rx_aload_n0, ↓rx_iload_n1, ↓rx_nil, ↓ry_li0s, ↓ry_li0z, ↓ry_lr0s, ↓ry_lr0z, rz_set, rz_nol, rz_clr, List.set_cons_zero, List.set_cons_succ, rz_tr, Nat.reduceAdd, Int.reduceAdd, Int.reduceToNat, Int.reduceSub, Int.reduceNeg, Int.cast_ofNat_Int]
  refine hK _ _ _ _ ?_
  refine ru_cV2 (As := [.int x]) (b := z) (S := []) l_Desk_73 (by decide +kernel) rfl hob rfl (Nat.le_of_ble_eq_true rfl) rfl rfl (Nat.le_refl _) (Nat.le_refl _) (c_Desk_machineOf h x) (fun c G' hc => by obtain ⟨⟨rfl, rfl⟩, hn⟩ := hc; exact ⟨Or.inl ⟨rfl, hn⟩, h, dk_fr.rf⟩) (fun r G' hr => ?_)
  obtain ⟨hg, k, hk, hkx, rfl⟩ := hr
  have hg := hg.symm
  subst hg
  simp only [Option.toList, List.cons_append, List.nil_append]
  obtain ⟨S, hmc, hm, hs, h3⟩ := dk_m h hk
  have hmo := mc_c hmc
  refine ru_blk' [(.astore 7, 2, 0, 0)] (by decide +kernel) (Nat.zero_le _) (Nat.zero_le _) (fun K R hK hR => ?_)
  simp only [↓rx_astore, ↓rx_nil, ↓ry_r1, rz_set, rz_nol, rz_clr, List.set_cons_zero, List.set_cons_succ, rz_tr, Nat.reduceAdd, Int.reduceAdd, Int.reduceToNat, Int.reduceSub, Int.reduceNeg, Int.cast_ofNat_Int]
  refine hK _ _ _ _ ?_
  have hthrow : ¬ dk_eok (V.1 k) yf yl yt yn → ru_T w (d + 8 + 1) 1 6 m_Desk_edge 0 0 44 [some (.ref z), some (.int x), some (.int yf), some (.int yl), some (.int yt), some (.int yn), some (.int u), some (.ref (z + (1582 + 70 * k))), none] [] G (ru_V V z G (fun r V' => ∃ k f l t n, k < 6 ∧ f < (V.1 k).1 ∧ t < (V.1 k).1 ∧ l < 3 ∧ n ≤ 3 ∧ (V.1 k).2.1.length < 24 ∧ x = nI k ∧ yf = nI f ∧ yl = nI l ∧ yt = nI t ∧ yn = nI n ∧ r = some (.int (nI (V.1 k).2.1.length)) ∧ V' = dk_um V k (dk_ae (V.1 k) f l t (wd_told u.toBitVec.toNat n))) (fun c => (c = 0 ∧ dk_no x) ∨ ∃ k, k < 6 ∧ x = nI k ∧ ((c = 1 ∧ ¬ dk_eok (V.1 k) yf yl yt yn) ∨ (c = 2 ∧ dk_eok (V.1 k) yf yl yt yn ∧ 24 ≤ (V.1 k).2.1.length)))) := fun q => by
    exact ru_throw (c := 1) (by decide) rfl rfl (by decide +kernel) (by decide +kernel) (by decide +kernel) (by decide +kernel) (Nat.le_of_ble_eq_true rfl) (Nat.le_refl _) (Nat.le_refl _) ⟨Or.inr ⟨k, hk, hkx, Or.inl ⟨rfl, q⟩⟩, h, dk_fr.rf⟩
  have hcs := fun x => c_Mach_hasState (w := w) (d := d + 8) (G := G) (a := z + (1582 + 70 * k)) (I := S.1) (A := S.2.1) (J := S.2.2.1) (X := S.2.2.2.1) (P := S.2.2.2.2) (n := (V.1 k).1) hm.1 hm.2.2.1 x
  rw [mc_id hmc] at hcs
  refine ru_blk' [(.aload 7, 2, 0, 0), (.iload_n 2, 1, 0, 0)] (by decide +kernel) (Nat.zero_le _) (Nat.zero_le _) (fun K R hK hR => ?_)
  simp only [↓rx_aload, ↓rx_iload_n2, ↓rx_nil, ↓ry_li0s, ↓ry_li0z, ↓ry_lr0s, ↓ry_lr0z, rz_set, rz_nol, rz_clr, List.set_cons_zero, List.set_cons_succ, rz_tr, Nat.reduceAdd, Int.reduceAdd, Int.reduceToNat, Int.reduceSub, Int.reduceNeg, Int.cast_ofNat_Int]
  refine hK _ _ _ _ ?_
  refine ru_cV (As := [.int yf]) (b := z + (1582 + 70 * k)) (S := []) l_Desk_83 (by decide +kernel) rfl hmo rfl (Nat.le_of_ble_eq_true rfl) (Nat.zero_le _) (Nat.zero_le _) (hcs yf) (fun r G' hr => ?_)
  obtain ⟨hg, hr⟩ := hr
  have hg := hg.symm
  subst hg
  rcases hr with ⟨f, hf, ef, rfl⟩ | ⟨hno, rfl⟩
  rotate_left
  · simp only [Option.toList, List.cons_append, List.nil_append]
    refine ru_blk' [(.ifCond .eq 31, 3, 0, 0)] (by decide +kernel) (Nat.zero_le _) (Nat.zero_le _) (fun K R hK hR => ?_)
    simp only [↓rx_ifCond_eq, ↓rx_nil, ↓ry_i1, rz_set, rz_nol, rz_clr, List.set_cons_zero, List.set_cons_succ, rz_tr, Nat.reduceAdd, Int.reduceAdd, Int.reduceToNat, Int.reduceSub, Int.reduceNeg, Int.cast_ofNat_Int]
    exact ⟨fun _ => hK _ _ _ _ (hthrow (fun q => by obtain ⟨j, hj, e⟩ := q.1; exact hno j hj e)), fun z => absurd trivial z⟩
  simp only [Option.toList, List.cons_append, List.nil_append]
  refine ru_blk' [(.ifCond .eq 31, 3, 0, 0)] (by decide +kernel) (Nat.zero_le _) (Nat.zero_le _) (fun K R hK hR => ?_)
  simp only [↓rx_ifCond_eq, ↓rx_nil, ↓ry_i1, rz_set, rz_nol, rz_clr, List.set_cons_zero, List.set_cons_succ, rz_tr, Nat.reduceAdd, Int.reduceAdd, Int.reduceToNat, Int.reduceSub, Int.reduceNeg, Int.cast_ofNat_Int]
  refine ⟨fun q => absurd q (by decide), fun _ => hK _ _ _ _ ?_⟩
  refine ru_blk' [(.aload 7, 2, 0, 0), (.iload 4, 2, 0, 0)] (by decide +kernel) (Nat.zero_le _) (Nat.zero_le _) (fun K R hK hR => ?_)
  simp only [↓rx_aload, ↓rx_iload, ↓rx_nil, ↓ry_li0s, ↓ry_li0z, ↓ry_lr0s, ↓ry_lr0z, rz_set, rz_nol, rz_clr, List.set_cons_zero, List.set_cons_succ, rz_tr, Nat.reduceAdd, Int.reduceAdd, Int.reduceToNat, Int.reduceSub, Int.reduceNeg, Int.cast_ofNat_Int]
  refine hK _ _ _ _ ?_
  refine ru_cV (As := [.int yt]) (b := z + (1582 + 70 * k)) (S := []) l_Desk_83 (by decide +kernel) rfl hmo rfl (Nat.le_of_ble_eq_true rfl) (Nat.zero_le _) (Nat.zero_le _) (hcs yt) (fun r G' hr => ?_)
  obtain ⟨hg, hr⟩ := hr
  have hg := hg.symm
  subst hg
  rcases hr with ⟨t, ht, et, rfl⟩ | ⟨hno, rfl⟩
  rotate_left
  · simp only [Option.toList, List.cons_append, List.nil_append]
    refine ru_blk' [(.ifCond .eq 21, 3, 0, 0)] (by decide +kernel) (Nat.zero_le _) (Nat.zero_le _) (fun K R hK hR => ?_)
    simp only [↓rx_ifCond_eq, ↓rx_nil, ↓ry_i1, rz_set, rz_nol, rz_clr, List.set_cons_zero, List.set_cons_succ, rz_tr, Nat.reduceAdd, Int.reduceAdd, Int.reduceToNat, Int.reduceSub, Int.reduceNeg, Int.cast_ofNat_Int]
    exact ⟨fun _ => hK _ _ _ _ (hthrow (fun q => by obtain ⟨j, hj, e⟩ := q.2.1; exact hno j hj e)), fun z => absurd trivial z⟩
  simp only [Option.toList, List.cons_append, List.nil_append]
  refine ru_blk' [(.ifCond .eq 21, 3, 0, 0)] (by decide +kernel) (Nat.zero_le _) (Nat.zero_le _) (fun K R hK hR => ?_)
  simp only [↓rx_ifCond_eq, ↓rx_nil, ↓ry_i1, rz_set, rz_nol, rz_clr, List.set_cons_zero, List.set_cons_succ, rz_tr, Nat.reduceAdd, Int.reduceAdd, Int.reduceToNat, Int.reduceSub, Int.reduceNeg, Int.cast_ofNat_Int]
  refine ⟨fun q => absurd q (by decide), fun _ => hK _ _ _ _ ?_⟩
  refine ru_blk' [(.iload_n 3, 1, 0, 0)] (by decide +kernel) (Nat.zero_le _) (Nat.zero_le _) (fun K R hK hR => ?_)
  simp only [↓rx_iload_n3, ↓rx_nil, ↓ry_li0s, ↓ry_li0z, rz_set, rz_nol, rz_clr, List.set_cons_zero, List.set_cons_succ, rz_tr, Nat.reduceAdd, Int.reduceAdd, Int.reduceToNat, Int.reduceSub, Int.reduceNeg, Int.cast_ofNat_Int]
  refine hK _ _ _ _ ?_
  refine ru_cS (As := [.int yl]) (S := []) l_Desk_87 (by decide +kernel) rfl (Nat.le_of_ble_eq_true rfl) (Nat.zero_le _) (Nat.zero_le _) (c_Desk_isLetter (d := d + 8) yl) (fun r G' hr => ?_)
  obtain ⟨hg, hr⟩ := hr
  have hg := hg.symm
  subst hg
  rcases hr with ⟨l, hl, el, rfl⟩ | ⟨hno, rfl⟩
  rotate_left
  · simp only [Option.toList, List.cons_append, List.nil_append]
    refine ru_blk' [(.ifCond .eq 14, 3, 0, 0)] (by decide +kernel) (Nat.zero_le _) (Nat.zero_le _) (fun K R hK hR => ?_)
    simp only [↓rx_ifCond_eq, ↓rx_nil, ↓ry_i1, rz_set, rz_nol, rz_clr, List.set_cons_zero, List.set_cons_succ, rz_tr, Nat.reduceAdd, Int.reduceAdd, Int.reduceToNat, Int.reduceSub, Int.reduceNeg, Int.cast_ofNat_Int]
    exact ⟨fun _ => hK _ _ _ _ (hthrow (fun q => by obtain ⟨j, hj, e⟩ := q.2.2.1; exact hno j hj e)), fun z => absurd trivial z⟩
  simp only [Option.toList, List.cons_append, List.nil_append]
  refine ru_blk' [(.ifCond .eq 14, 3, 0, 0), (.iload 5, 2, 0, 0), (.ifCond .lt 9, 3, 0, 0), (.iload 5, 2, 0, 0), (.iconst 3, 1, 0, 0), (.if_icmp .le 11, 3, 0, 0)] (by decide +kernel) (Nat.zero_le _) (Nat.zero_le _) (fun K R hK hR => ?_)
  simp only [rw_c3, ↓rx_iconst, ↓rx_ifCond_eq, ↓rx_ifCond_lt, ↓rx_if_icmp_le, ↓rx_iload, ↓rx_nil, ↓ry_i1, ↓ry_i2, ↓ry_li0s, ↓ry_li0z, rz_set, rz_nol, rz_clr, List.set_cons_zero, List.set_cons_succ, rz_tr, Nat.reduceAdd, Int.reduceAdd, Int.reduceToNat, Int.reduceSub, Int.reduceNeg, Int.cast_ofNat_Int]
  refine ⟨fun q => absurd q (by decide), fun _ => ⟨fun c => hK _ _ _ _ (hthrow (fun q => ?_)), fun c => ⟨fun c2 => hK _ _ _ _ ?_, fun c2 => hK _ _ _ _ (hthrow (fun q => ?_))⟩⟩⟩
  · obtain ⟨j, hj, rfl⟩ := q.2.2.2
    exact nI_pos (by omega) c
  rotate_left
  · obtain ⟨j, hj, rfl⟩ := q.2.2.2
    exact c2 ((nI_leI (by omega) (by decide)).mpr hj)
  obtain ⟨n, n3, rfl⟩ : ∃ n, n ≤ 3 ∧ yn = nI n := by
    obtain ⟨j, hj, rfl⟩ := nI_of c
    exact ⟨j, (nI_leI hj (by decide)).mp c2, rfl⟩
  have hok : dk_eok (V.1 k) yf yl yt (nI n) := ⟨⟨f, hf, ef⟩, ⟨t, ht, et⟩, ⟨l, hl, el⟩, n, n3, rfl⟩
  obtain ⟨v0, v1, v2, v3, v4, v5, v6, v7, v8, v9, v10, v11, v12⟩ := id hm
  refine ru_blk' [(.aload 7, 2, 0, 0), (.getfield 90, 3, 2, 1), (.bipush 24, 2, 0, 0), (.if_icmp .lt 11, 3, 0, 0)] (by decide +kernel) (Nat.zero_le _) (Nat.zero_le _) (fun K R hK hR => ?_)
  simp only [rw_b24, ↓rx_aload, ↓rx_bipush, ↓rx_getfield, ↓rx_if_icmp_lt, ↓rx_nil, ↓ry_fvs, ↓ry_fvz, ↓ry_i2, ↓ry_lr0s, ↓ry_lr0z, ↓ry_obu, ↓ry_r1, ↓rh_ob hmo, mc_fs, v3, rz_set, rz_nol, rz_clr, List.set_cons_zero, List.set_cons_succ, rz_tr, Nat.reduceAdd, Int.reduceAdd, Int.reduceToNat, Int.reduceSub, Int.reduceNeg, Int.cast_ofNat_Int]
  rw [nI_ltI (by omega) (by decide)]
  refine ⟨fun c24 => hK _ _ _ _ ?_, fun c24 => hK _ _ _ _ ?_⟩
  rotate_left
  ·
    exact ru_throw (c := 2) (by decide) rfl rfl (by decide +kernel) (by decide +kernel) (by decide +kernel) (by decide +kernel) (Nat.le_of_ble_eq_true rfl) (Nat.le_refl _) (Nat.le_refl _) ⟨Or.inr ⟨k, hk, hkx, Or.inr ⟨rfl, hok, Nat.le_of_not_lt c24⟩⟩, h, dk_fr.rf⟩
  refine ru_blk' [(.aload 7, 2, 0, 0), (.iload_n 2, 1, 0, 0), (.iload_n 3, 1, 0, 0), (.iload 4, 2, 0, 0)] (by decide +kernel) (Nat.zero_le _) (Nat.zero_le _) (fun K R hK hR => ?_)
  simp only [↓rx_aload, ↓rx_iload, ↓rx_iload_n2, ↓rx_iload_n3, ↓rx_nil, ↓ry_li0s, ↓ry_li0z, ↓ry_lr0s, ↓ry_lr0z, rz_set, rz_nol, rz_clr, List.set_cons_zero, List.set_cons_succ, rz_tr, Nat.reduceAdd, Int.reduceAdd, Int.reduceToNat, Int.reduceSub, Int.reduceNeg, Int.cast_ofNat_Int]
  refine hK _ _ _ _ ?_
  have hca := c_Mach_addEdge (w := w) (d := d + 8) (G := G) (a := z + (1582 + 70 * k)) (I := S.1) (A := S.2.1) (J := S.2.2.1) (X := S.2.2.2.1) (P := S.2.2.2.2) v3 c24 yf yl yt
  rw [mc_id hmc] at hca
  refine ru_cV (As := [.int yf, .int yl, .int yt]) (b := z + (1582 + 70 * k)) (S := []) l_Desk_97 (by decide +kernel) rfl hmo rfl (Nat.le_of_ble_eq_true rfl) (Nat.zero_le _) (Nat.zero_le _) (hca) (fun r G' hr => ?_)
  obtain ⟨rfl, rfl⟩ := hr
  simp only [Option.toList, List.cons_append, List.nil_append]
  generalize hI2 : upd (upd S.1 1 _) 3 _ = I2
  generalize hA2 : va_up (va_up (va_up S.2.1 0 _) 1 _) 2 _ = A2
  refine ru_blk' [(.istore 8, 2, 0, 0)] (by decide +kernel) (Nat.zero_le _) (Nat.zero_le _) (fun K R hK hR => ?_)
  simp only [↓rx_istore, ↓rx_nil, ↓ry_i1, rz_set, rz_nol, rz_clr, List.set_cons_zero, List.set_cons_succ, rz_tr, Nat.reduceAdd, Int.reduceAdd, Int.reduceToNat, Int.reduceSub, Int.reduceNeg, Int.cast_ofNat_Int]
  refine hK _ _ _ _ ?_
  refine ru_blk' [(.aload 7, 2, 0, 0), (.getfield 101, 3, 2, 5), (.iload 8, 2, 0, 0), (.aaload, 1, 0, 0), (.iload 5, 2, 0, 0), (.iload 6, 2, 0, 0)] (by decide +kernel) (Nat.zero_le _) (Nat.zero_le _) (fun K R hK hR => ?_)
  simp only [Nat.reduceEqDiff, false_or, or_false, or_true, reduceIte, ↓rx_aaload, ↓rx_aload, ↓rx_getfield, ↓rx_iload, ↓rx_nil, ↓ry_fvs, ↓ry_fvz, ↓ry_li0s, ↓ry_li0z, ↓ry_lr0s, ↓ry_lr0z, ↓ry_obu, ↓ry_r1, ↓ry_ri, true_and, true_or, ↓mc_ob, ↓mc_i1, ↓mc_n1, ↓mc_i2, ↓mc_n2, ↓mc_i3, ↓mc_n3, ↓mc_r4, ↓mc_r7, ↓mc_i8, ↓mc_n8, ↓mc_i9, ↓mc_n9, va_rfs, rz_set, rz_nol, rz_clr, List.set_cons_zero, List.set_cons_succ, rz_tr, Nat.reduceAdd, Int.reduceAdd, Int.reduceToNat, Int.reduceSub, Int.reduceNeg, Int.cast_ofNat_Int]
  rw [nI_clamp (by omega)]
  refine ⟨vp_in_nI (by omega) (by decide), hK _ _ _ _ ?_⟩
  have wi := mc_wi (G := G) (a := z + (1582 + 70 * k)) (I := I2) (A := A2) (J := S.2.2.1) (X := S.2.2.2.1) (P := S.2.2.2.2) v12 (k := (V.1 k).2.1.length) (by omega)
  have hct := c_Word_tell (w := w) (d := d + 7) (n0 := n) wi (by decide) u n3
  refine ru_cV (As := [.int (nI n), .int u]) (b := z + (1582 + 70 * k) + 10 + 2 * (V.1 k).2.1.length) (S := []) l_Desk_105 (by decide +kernel) rfl wi.1 rfl (Nat.le_of_ble_eq_true rfl) (Nat.zero_le _) (Nat.zero_le _) (hct) (fun r G' hr => ?_)
  obtain ⟨rfl, rfl⟩ := hr
  rw [mc_wp (by omega)]
  simp only [Option.toList, List.nil_append]
  refine ru_blk' [(.iload 8, 2, 0, 0), (.ireturn, 1, 0, 0)] (by decide +kernel) (Nat.zero_le _) (Nat.zero_le _) (fun K R hK hR => ?_)
  simp only [↓rx_iload, ↓rx_ireturn, ↓rx_nil, ↓ry_li0s, ↓ry_li0z, rz_set, rz_nol, rz_clr, List.set_cons_zero, List.set_cons_succ, rz_tr, Nat.reduceAdd, Int.reduceAdd, Int.reduceToNat, Int.reduceSub, Int.reduceNeg, Int.cast_ofNat_Int]
  have hl1 := wd_told_len u.toBitVec.toNat n
  have h8 := wd_told_8 u.toBitVec.toNat n
  generalize hws : wd_told u.toBitVec.toNat n = ws at *
  have l2 : (dk_ae (V.1 k) f l t ws).2.1.length = (V.1 k).2.1.length + 1 := by simp [dk_ae]
  have ge : ∀ e (he : e < (V.1 k).2.1.length) (he2 : e < (dk_ae (V.1 k) f l t ws).2.1.length), (dk_ae (V.1 k) f l t ws).2.1[e] = (V.1 k).2.1[e] := fun e he he2 => List.getElem_append_left he
  have gl : ∀ (he2 : (V.1 k).2.1.length < (dk_ae (V.1 k) f l t ws).2.1.length), (dk_ae (V.1 k) f l t ws).2.1[(V.1 k).2.1.length] = (f, l, t, ws) := fun he2 => by simp [dk_ae]
  have hd := dk_upm (J := S.2.2.1) (P := S.2.2.2.2) (I := I2) (A := A2) (X := va_up S.2.2.2.1 (V.1 k).2.1.length ws) (m := dk_ae (V.1 k) f l t ws) (cl := mk_cl (V.1 k)) h hk ⟨?_, v1, v2, ?_, ?_, fun e he => ?_, ?_, v7, v8, v9, fun q hq xs hxs => ?_, ?_, fun j hj => ?_⟩ (Or.inl (by rw [← hI2, pk_us])) ⟨fun e he => ?_, h3.2.1, h3.2.2⟩
  · exact hR _ _ (rz_nb_i (by decide)) ⟨⟨rfl, rfl⟩, rfl, dk_um V k (dk_ae (V.1 k) f l t ws), ⟨k, f, l, t, n, hk, hf, ht, hl, n3, c24, hkx, ef, el, et, rfl, rfl, by rw [hws]⟩, hd.1, hd.2⟩
  · rw [← hI2, pk_un (by decide), pk_un (by decide)]; exact v0
  · rw [← hI2, pk_un (by decide), pk_us, l2]
  · rw [l2]; omega
  · rw [l2] at he
    by_cases c : e = (V.1 k).2.1.length
    · subst c
      rw [gl, ← hA2, va_up_self]
      dsimp only
      rw [va_up_ne _ _ (by decide), va_up_ne _ _ (by decide), va_up_self, pk_us, va_up_ne _ _ (by decide), va_up_self, pk_us, va_up_self, pk_us]
      exact ⟨ef, el, et, rfl, hf, hl, ht⟩
    · have he' : e < (V.1 k).2.1.length := by omega
      rw [ge e he', va_up_ne _ _ c, ← hA2]
      rw [va_up_ne _ _ (show 0 ≠ 2 by decide), va_up_ne _ _ (show 0 ≠ 1 by decide), va_up_self, va_up_ne _ _ (show 1 ≠ 2 by decide), va_up_self, va_up_self, pk_un c, pk_un c, pk_un c]
      exact v5 e he'
  · rw [← hI2, pk_un (by decide), pk_un (by decide)]; exact v6
  · rw [va_up_ne _ _ (by omega)]; exact v10 q hq xs hxs
  · rw [va_up_ne _ _ (by omega)]; exact v11
  · by_cases c : j = (V.1 k).2.1.length
    · subst c; rw [va_up_self]; exact ⟨by omega, fun x hx => by have := h8 x hx; omega, by decide⟩
    · rw [va_up_ne _ _ c]; exact v12 j hj
  · rw [mv_e_get he]
    rw [l2] at he
    by_cases c : e = (V.1 k).2.1.length
    · subst c
      rw [gl]
      exact ⟨by show ws.length ≤ 3; omega, h8⟩
    · have he' : e < (V.1 k).2.1.length := by omega
      rw [ge e he', ← mv_e_get he']
      exact h3.1 e he'

def dk_fi (m : mv_T) (q : Nat) (f : Option (List Nat)) : mv_T := (m.1, m.2.1, va_up m.2.2.1 q f, m.2.2.2)
def dk_lok (m : mv_T) (q n : Int32) : Prop := (∃ j, j < m.1 ∧ q = nI j) ∧ (n = -1 ∨ ∃ j, j ≤ 3 ∧ n = nI j)
set_option maxRecDepth 100000 in
set_option maxHeartbeats 4000000 in
theorem c_Desk_last {w : rz_w} {d : Nat} {G : rz_G} {z : Nat} {V : dk_V} (h : dk G z V) (x yq yn u : Int32)  : ru_C w (d + 9) 1 6 y_Desk_last m_Desk_last [.ref z, .int x, .int yq, .int yn, .int u] G (ru_V V z G (fun r V' => r = none ∧ ∃ k q, k < 6 ∧ q < (V.1 k).1 ∧ x = nI k ∧ yq = nI q ∧ ((yn = -1 ∧ V' = dk_um V k (dk_fi (V.1 k) q none)) ∨ ∃ n, n ≤ 3 ∧ yn = nI n ∧ V' = dk_um V k (dk_fi (V.1 k) q (some (wd_told u.toBitVec.toNat n))))) (fun c => (c = 0 ∧ dk_no x) ∨ (c = 1 ∧ ∃ k, k < 6 ∧ x = nI k ∧ ¬ dk_lok (V.1 k) yq yn))) := by
  obtain ⟨hob, hma⟩ := h 0 (by decide)
  refine ru_enter [some (.ref z), some (.int x), some (.int yq), some (.int yn), some (.int u), none] rfl (by decide +kernel) rfl rfl (Nat.le_of_ble_eq_true rfl) rfl ?_
  refine ru_blk' [(.aload_n 0, 1, 0, 0), (.iload_n 1, 1, 0, 0)] (by decide +kernel) (Nat.zero_le _) (Nat.zero_le _) (fun K R hK hR => ?_)
  simp only [↓rx_aload_n0, ↓rx_iload_n1, ↓rx_nil, ↓ry_li0s, ↓ry_li0z, ↓ry_lr0s, ↓ry_lr0z, rz_set, rz_nol, rz_clr, List.set_cons_zero, List.set_cons_succ, rz_tr, Nat.reduceAdd, Int.reduceAdd, Int.reduceToNat, Int.reduceSub, Int.reduceNeg, Int.cast_ofNat_Int]
  refine hK _ _ _ _ ?_
  refine ru_cV2 (As := [.int x]) (b := z) (S := []) l_Desk_73 (by decide +kernel) rfl hob rfl (Nat.le_of_ble_eq_true rfl) rfl rfl (Nat.le_refl _) (Nat.le_refl _) (c_Desk_machineOf h x) (fun c G' hc => by obtain ⟨⟨rfl, rfl⟩, hn⟩ := hc; exact ⟨Or.inl ⟨rfl, hn⟩, h, dk_fr.rf⟩) (fun r G' hr => ?_)
  obtain ⟨hg, k, hk, hkx, rfl⟩ := hr
  have hg := hg.symm
  subst hg
  simp only [Option.toList, List.cons_append, List.nil_append]
  obtain ⟨S, hmc, hm, hs, h3⟩ := dk_m h hk
  have hmo := mc_c hmc
  refine ru_blk' [(.astore 5, 2, 0, 0)] (by decide +kernel) (Nat.zero_le _) (Nat.zero_le _) (fun K R hK hR => ?_)
  simp only [↓rx_astore, ↓rx_nil, ↓ry_r1, rz_set, rz_nol, rz_clr, List.set_cons_zero, List.set_cons_succ, rz_tr, Nat.reduceAdd, Int.reduceAdd, Int.reduceToNat, Int.reduceSub, Int.reduceNeg, Int.cast_ofNat_Int]
  refine hK _ _ _ _ ?_
  have hthrow : ¬ dk_lok (V.1 k) yq yn → ru_T w (d + 8 + 1) 1 6 m_Desk_last 0 0 26 [some (.ref z), some (.int x), some (.int yq), some (.int yn), some (.int u), some (.ref (z + (1582 + 70 * k)))] [] G (ru_V V z G (fun r V' => r = none ∧ ∃ k q, k < 6 ∧ q < (V.1 k).1 ∧ x = nI k ∧ yq = nI q ∧ ((yn = -1 ∧ V' = dk_um V k (dk_fi (V.1 k) q none)) ∨ ∃ n, n ≤ 3 ∧ yn = nI n ∧ V' = dk_um V k (dk_fi (V.1 k) q (some (wd_told u.toBitVec.toNat n))))) (fun c => (c = 0 ∧ dk_no x) ∨ (c = 1 ∧ ∃ k, k < 6 ∧ x = nI k ∧ ¬ dk_lok (V.1 k) yq yn))) := fun q => by
    exact ru_throw (c := 1) (by decide) rfl rfl (by decide +kernel) (by decide +kernel) (by decide +kernel) (by decide +kernel) (Nat.le_of_ble_eq_true rfl) (Nat.le_refl _) (Nat.le_refl _) ⟨Or.inr ⟨rfl, k, hk, hkx, q⟩, h, dk_fr.rf⟩
  have hcs := fun x => c_Mach_hasState (w := w) (d := d + 8) (G := G) (a := z + (1582 + 70 * k)) (I := S.1) (A := S.2.1) (J := S.2.2.1) (X := S.2.2.2.1) (P := S.2.2.2.2) (n := (V.1 k).1) hm.1 hm.2.2.1 x
  rw [mc_id hmc] at hcs
  refine ru_blk' [(.aload 5, 2, 0, 0), (.iload_n 2, 1, 0, 0)] (by decide +kernel) (Nat.zero_le _) (Nat.zero_le _) (fun K R hK hR => ?_)
  simp only [↓rx_aload, ↓rx_iload_n2, ↓rx_nil, ↓ry_li0s, ↓ry_li0z, ↓ry_lr0s, ↓ry_lr0z, rz_set, rz_nol, rz_clr, List.set_cons_zero, List.set_cons_succ, rz_tr, Nat.reduceAdd, Int.reduceAdd, Int.reduceToNat, Int.reduceSub, Int.reduceNeg, Int.cast_ofNat_Int]
  refine hK _ _ _ _ ?_
  refine ru_cV (As := [.int yq]) (b := z + (1582 + 70 * k)) (S := []) l_Desk_83 (by decide +kernel) rfl hmo rfl (Nat.le_of_ble_eq_true rfl) (Nat.zero_le _) (Nat.zero_le _) (hcs yq) (fun r G' hr => ?_)
  obtain ⟨hg, hr⟩ := hr
  have hg := hg.symm
  subst hg
  rcases hr with ⟨q, hq, rfl, rfl⟩ | ⟨hno, rfl⟩
  rotate_left
  · simp only [Option.toList, List.cons_append, List.nil_append]
    refine ru_blk' [(.ifCond .eq 13, 3, 0, 0)] (by decide +kernel) (Nat.zero_le _) (Nat.zero_le _) (fun K R hK hR => ?_)
    simp only [↓rx_ifCond_eq, ↓rx_nil, ↓ry_i1, rz_set, rz_nol, rz_clr, List.set_cons_zero, List.set_cons_succ, rz_tr, Nat.reduceAdd, Int.reduceAdd, Int.reduceToNat, Int.reduceSub, Int.reduceNeg, Int.cast_ofNat_Int]
    exact ⟨fun _ => hK _ _ _ _ (hthrow (fun q => by obtain ⟨j, hj, e⟩ := q.1; exact hno j hj e)), fun z => absurd trivial z⟩
  simp only [Option.toList, List.cons_append, List.nil_append]
  refine ru_blk' [(.ifCond .eq 13, 3, 0, 0), (.iload_n 3, 1, 0, 0), (.iconst (-1), 1, 0, 0), (.if_icmp .lt 8, 3, 0, 0), (.iload_n 3, 1, 0, 0), (.iconst 3, 1, 0, 0), (.if_icmp .le 11, 3, 0, 0)] (by decide +kernel) (Nat.zero_le _) (Nat.zero_le _) (fun K R hK hR => ?_)
  simp only [rw_c3, rw_cm1, ↓rx_iconst, ↓rx_ifCond_eq, ↓rx_if_icmp_le, ↓rx_if_icmp_lt, ↓rx_iload_n3, ↓rx_nil, ↓ry_i1, ↓ry_i2, ↓ry_li0s, ↓ry_li0z, rz_set, rz_nol, rz_clr, List.set_cons_zero, List.set_cons_succ, rz_tr, Nat.reduceAdd, Int.reduceAdd, Int.reduceToNat, Int.reduceSub, Int.reduceNeg, Int.cast_ofNat_Int]
  have hm1 : (-1 : Int32).toInt = -1 := rfl
  refine ⟨fun q => absurd q (by decide), fun _ => ⟨fun c => hK _ _ _ _ (hthrow (fun q => ?_)), fun c => ⟨fun c2 => hK _ _ _ _ ?_, fun c2 => hK _ _ _ _ (hthrow (fun q => ?_))⟩⟩⟩
  · rcases q.2 with rfl | ⟨j, hj, rfl⟩
    · exact absurd c (by decide)
    · rw [Int32.lt_iff_toInt_lt, nI_toInt (by omega)] at c; omega
  rotate_left
  · rcases q.2 with rfl | ⟨j, hj, rfl⟩
    · exact c2 (by decide)
    · exact c2 ((nI_leI (by omega) (by decide)).mpr hj)
  obtain ⟨v0, v1, v2, v3, v4, v5, v6, v7, v8, v9, v10, v11, v12⟩ := id hm
  have q6 : q < 6 := by omega
  refine ru_blk' [(.iload_n 3, 1, 0, 0), (.iconst (-1), 1, 0, 0), (.if_icmp .ne 12, 3, 0, 0)] (by decide +kernel) (Nat.zero_le _) (Nat.zero_le _) (fun K R hK hR => ?_)
  simp only [rw_cm1, ↓rx_iconst, ↓rx_if_icmp_ne, ↓rx_iload_n3, ↓rx_nil, ↓ry_i2, ↓ry_li0s, ↓ry_li0z, rz_set, rz_nol, rz_clr, List.set_cons_zero, List.set_cons_succ, rz_tr, Nat.reduceAdd, Int.reduceAdd, Int.reduceToNat, Int.reduceSub, Int.reduceNeg, Int.cast_ofNat_Int]
  by_cases cm : yn = -1
  · subst cm
    refine ⟨fun q => absurd rfl q, fun _ => hK _ _ _ _ ?_⟩
    refine ru_blk' [(.aload 5, 2, 0, 0), (.iload_n 2, 1, 0, 0)] (by decide +kernel) (Nat.zero_le _) (Nat.zero_le _) (fun K R hK hR => ?_)
    simp only [↓rx_aload, ↓rx_iload_n2, ↓rx_nil, ↓ry_li0s, ↓ry_li0z, ↓ry_lr0s, ↓ry_lr0z, rz_set, rz_nol, rz_clr, List.set_cons_zero, List.set_cons_succ, rz_tr, Nat.reduceAdd, Int.reduceAdd, Int.reduceToNat, Int.reduceSub, Int.reduceNeg, Int.cast_ofNat_Int]
    refine hK _ _ _ _ ?_
    have hct := c_Mach_takeClosing (w := w) (d := d + 8) (G := G) (a := z + (1582 + 70 * k)) (I := S.1) (A := S.2.1) (J := S.2.2.1) (X := S.2.2.2.1) (P := S.2.2.2.2) v6 v7 q6
    rw [mc_id hmc] at hct
    refine ru_cV (As := [.int (nI q)]) (b := z + (1582 + 70 * k)) (S := []) l_Desk_109 (by decide +kernel) rfl hmo rfl (Nat.le_of_ble_eq_true rfl) (Nat.zero_le _) (Nat.zero_le _) (hct) (fun r G' hr => ?_)
    obtain ⟨rfl, rfl⟩ := hr
    simp only [Option.toList, List.nil_append]
    refine ru_blk' [(.goto 22, 3, 0, 0)] (by decide +kernel) (Nat.zero_le _) (Nat.zero_le _) (fun K R hK hR => ?_)
    simp only [↓rx_goto, ↓rx_nil, rz_set, rz_nol, rz_clr, List.set_cons_zero, List.set_cons_succ, rz_tr, Nat.reduceAdd, Int.reduceAdd, Int.reduceToNat, Int.reduceSub, Int.reduceNeg, Int.cast_ofNat_Int]
    refine hK _ _ _ _ ?_
    refine ru_blk' [(.return_, 1, 0, 0)] (by decide +kernel) (Nat.zero_le _) (Nat.zero_le _) (fun K R hK hR => ?_)
    simp only [↓rx_nil, ↓rx_return_, rz_set, rz_nol, rz_clr, List.set_cons_zero, List.set_cons_succ, rz_tr, Nat.reduceAdd, Int.reduceAdd, Int.reduceToNat, Int.reduceSub, Int.reduceNeg, Int.cast_ofNat_Int]
    generalize hI2 : upd (upd S.1 2 _) 3 _ = I2
    have hd := dk_upm (J := S.2.2.1) (P := S.2.2.2.2) (I := I2) (A := S.2.1) (X := S.2.2.2.1) (m := dk_fi (V.1 k) q none) (cl := mk_cl (V.1 k) &&& (63 - 2 ^ q)) h hk ⟨?_, v1, v2, ?_, v4, v5, ?_, hp_andc64 _ v7 q q6, fun p hp => ?_, fun p hp => ?_, fun p hp xs hxs => ?_, v11, v12⟩ (Or.inl (by rw [← hI2, pk_us])) ⟨h3.1, fun p xs hxs => ?_, h3.2.2⟩
    · exact hR _ _ (rz_nb_i (by decide)) ⟨⟨rfl, rfl⟩, rfl, _, ⟨rfl, k, q, hk, hq, hkx, rfl, Or.inl ⟨trivial, rfl⟩⟩, hd.1, hd.2⟩
    · rw [← hI2, pk_un (by decide), pk_un (by decide)]; exact v0
    · rw [← hI2, pk_un (by decide), pk_un (by decide)]; exact v3
    · rw [← hI2, pk_un (by decide), pk_us]
    · rw [hp_andb _ v7 q q6 p hp]
      show _ ↔ (va_up (V.1 k).2.2.1 q none p).isSome = true
      by_cases c : p = q
      · subst c; rw [va_up_self]; simp
      · rw [va_up_ne _ _ c, ← v8 p hp]; simp [c]
    · show va_up (V.1 k).2.2.1 q none p = none
      by_cases c : p = q
      · subst c; exact va_up_self _ _ _
      · rw [va_up_ne _ _ c]; exact v9 p hp
    · have hxs : va_up (V.1 k).2.2.1 q none p = some xs := hxs
      by_cases c : p = q
      · subst c; rw [va_up_self] at hxs; cases hxs
      · rw [va_up_ne _ _ c] at hxs; exact v10 p hp xs hxs
    · have hxs : va_up (V.1 k).2.2.1 q none p = some xs := hxs
      by_cases c : p = q
      · subst c; rw [va_up_self] at hxs; cases hxs
      · rw [va_up_ne _ _ c] at hxs; exact h3.2.1 p xs hxs
  refine ⟨fun _ => hK _ _ _ _ ?_, fun q => absurd q cm⟩
  obtain ⟨n, n3, rfl⟩ : ∃ n, n ≤ 3 ∧ yn = nI n := by
    have h0 : ¬ yn < 0 := fun q => cm (by
      rw [Int32.lt_iff_toInt_lt] at q c
      have h00 : (0 : Int32).toInt = 0 := rfl
      apply Int32.toInt_inj.mp
      omega)
    obtain ⟨j, hj, rfl⟩ := nI_of h0
    exact ⟨j, (nI_leI hj (by decide)).mp c2, rfl⟩
  refine ru_blk' [(.aload 5, 2, 0, 0), (.iload_n 2, 1, 0, 0)] (by decide +kernel) (Nat.zero_le _) (Nat.zero_le _) (fun K R hK hR => ?_)
  simp only [↓rx_aload, ↓rx_iload_n2, ↓rx_nil, ↓ry_li0s, ↓ry_li0z, ↓ry_lr0s, ↓ry_lr0z, rz_set, rz_nol, rz_clr, List.set_cons_zero, List.set_cons_succ, rz_tr, Nat.reduceAdd, Int.reduceAdd, Int.reduceToNat, Int.reduceSub, Int.reduceNeg, Int.cast_ofNat_Int]
  refine hK _ _ _ _ ?_
  have hct := c_Mach_giveClosing (w := w) (d := d + 8) (G := G) (a := z + (1582 + 70 * k)) (I := S.1) (A := S.2.1) (J := S.2.2.1) (X := S.2.2.2.1) (P := S.2.2.2.2) v6 v7 q6
  rw [mc_id hmc] at hct
  refine ru_cV (As := [.int (nI q)]) (b := z + (1582 + 70 * k)) (S := []) l_Desk_112 (by decide +kernel) rfl hmo rfl (Nat.le_of_ble_eq_true rfl) (Nat.zero_le _) (Nat.zero_le _) (hct) (fun r G' hr => ?_)
  obtain ⟨rfl, rfl⟩ := hr
  simp only [Option.toList, List.nil_append]
  generalize hI2 : upd (upd S.1 2 _) 3 _ = I2
  refine ru_blk' [(.aload 5, 2, 0, 0), (.getfield 115, 3, 2, 7), (.iload_n 2, 1, 0, 0), (.aaload, 1, 0, 0), (.iload_n 3, 1, 0, 0), (.iload 4, 2, 0, 0)] (by decide +kernel) (Nat.zero_le _) (Nat.zero_le _) (fun K R hK hR => ?_)
  simp only [Nat.reduceEqDiff, false_or, or_false, or_true, reduceIte, ↓rx_aaload, ↓rx_aload, ↓rx_getfield, ↓rx_iload, ↓rx_iload_n2, ↓rx_iload_n3, ↓rx_nil, ↓ry_fvs, ↓ry_fvz, ↓ry_li0s, ↓ry_li0z, ↓ry_lr0s, ↓ry_lr0z, ↓ry_obu, ↓ry_r1, ↓ry_ri, true_and, true_or, ↓mc_ob, ↓mc_i1, ↓mc_n1, ↓mc_i2, ↓mc_n2, ↓mc_i3, ↓mc_n3, ↓mc_r4, ↓mc_r7, ↓mc_i8, ↓mc_n8, ↓mc_i9, ↓mc_n9, va_rfs, rz_set, rz_nol, rz_clr, List.set_cons_zero, List.set_cons_succ, rz_tr, Nat.reduceAdd, Int.reduceAdd, Int.reduceToNat, Int.reduceSub, Int.reduceNeg, Int.cast_ofNat_Int]
  rw [nI_clamp (by omega)]
  refine ⟨vp_in_nI (by omega) (by decide), hK _ _ _ _ ?_⟩
  have wi := mc_wi (G := G) (a := z + (1582 + 70 * k)) (I := I2) (A := S.2.1) (J := S.2.2.1) (X := S.2.2.2.1) (P := S.2.2.2.2) v12 (k := 24 + q) (by omega)
  rw [show z + (1582 + 70 * k) + 10 + 2 * (24 + q) = z + (1582 + 70 * k) + 58 + 2 * q by omega] at wi
  have hcw := c_Word_tell (w := w) (d := d + 7) (n0 := n) wi (by decide) u n3
  have hwp := mc_wp (G := G) (a := z + (1582 + 70 * k)) (I := I2) (A := S.2.1) (J := S.2.2.1) (X := S.2.2.2.1) (P := S.2.2.2.2) (xs := wd_told u.toBitVec.toNat n) (show 24 + q < 30 by omega)
  rw [show z + (1582 + 70 * k) + 10 + 2 * (24 + q) = z + (1582 + 70 * k) + 58 + 2 * q by omega] at hwp
  refine ru_cV (As := [.int (nI n), .int u]) (b := z + (1582 + 70 * k) + 58 + 2 * q) (S := []) l_Desk_105 (by decide +kernel) rfl wi.1 rfl (Nat.le_of_ble_eq_true rfl) (Nat.zero_le _) (Nat.zero_le _) (hcw) (fun r G' hr => ?_)
  obtain ⟨rfl, rfl⟩ := hr
  rw [hwp]
  simp only [Option.toList, List.nil_append]
  refine ru_blk' [(.return_, 1, 0, 0)] (by decide +kernel) (Nat.zero_le _) (Nat.zero_le _) (fun K R hK hR => ?_)
  simp only [↓rx_nil, ↓rx_return_, rz_set, rz_nol, rz_clr, List.set_cons_zero, List.set_cons_succ, rz_tr, Nat.reduceAdd, Int.reduceAdd, Int.reduceToNat, Int.reduceSub, Int.reduceNeg, Int.cast_ofNat_Int]
  have hl1 := wd_told_len u.toBitVec.toNat n
  have h8 := wd_told_8 u.toBitVec.toNat n
  clear hwp hcw
  generalize hws : wd_told u.toBitVec.toNat n = ws at *
  have hd := dk_upm (J := S.2.2.1) (P := S.2.2.2.2) (I := I2) (A := S.2.1) (X := va_up S.2.2.2.1 (24 + q) ws) (m := dk_fi (V.1 k) q (some ws)) (cl := mk_cl (V.1 k) ||| 2 ^ q) h hk ⟨?_, v1, v2, ?_, v4, fun e he => ?_, ?_, hp_or64 _ v7 q q6, fun p hp => ?_, fun p hp => ?_, fun p hp xs hxs => ?_, ?_, fun j hj => ?_⟩ (Or.inl (by rw [← hI2, pk_us])) ⟨h3.1, fun p xs hxs => ?_, h3.2.2⟩
  · exact hR _ _ (rz_nb_i (by decide)) ⟨⟨rfl, rfl⟩, rfl, dk_um V k (dk_fi (V.1 k) q (some ws)), ⟨rfl, k, q, hk, hq, hkx, rfl, Or.inr ⟨n, n3, rfl, by rw [hws]⟩⟩, hd.1, hd.2⟩
  · rw [← hI2, pk_un (by decide), pk_un (by decide)]; exact v0
  · rw [← hI2, pk_un (by decide), pk_un (by decide)]; exact v3
  · rw [va_up_ne _ _ (by have : e < (V.1 k).2.1.length := he; omega)]; exact v5 e he
  · rw [← hI2, pk_un (by decide), pk_us]
  · rw [hp_orb _ v7 q q6 p hp]
    show _ ↔ (va_up (V.1 k).2.2.1 q (some ws) p).isSome = true
    by_cases c : p = q
    · subst c; rw [va_up_self]; simp
    · rw [va_up_ne _ _ c, ← v8 p hp]; simp [c]
  · have hp : (V.1 k).1 ≤ p := hp
    show va_up (V.1 k).2.2.1 q (some ws) p = none
    rw [va_up_ne _ _ (by omega)]; exact v9 p hp
  · have hxs : va_up (V.1 k).2.2.1 q (some ws) p = some xs := hxs
    by_cases c : p = q
    · subst c; rw [va_up_self] at hxs ⊢; exact Option.some.inj hxs
    · rw [va_up_ne _ _ c] at hxs; rw [va_up_ne _ _ (by omega)]; exact v10 p hp xs hxs
  · rw [va_up_ne _ _ (by omega)]; exact v11
  · by_cases c : j = 24 + q
    · subst c; rw [va_up_self]; exact ⟨by omega, fun x hx => by have := h8 x hx; omega, by decide⟩
    · rw [va_up_ne _ _ c]; exact v12 j hj
  · have hxs : va_up (V.1 k).2.2.1 q (some ws) p = some xs := hxs
    by_cases c : p = q
    · subst c; rw [va_up_self] at hxs; cases hxs; exact ⟨by omega, h8⟩
    · rw [va_up_ne _ _ c] at hxs; exact h3.2.1 p xs hxs

