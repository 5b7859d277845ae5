/-! WriterDesk: read, sign -/
def dk_rok (n u : Int32) : Prop := ∃ j, j ≤ 10 ∧ n = nI j ∧ ∀ i, i < j → dk_let u.toBitVec.toNat i < 3
def dk_rk (m : mv_T) (u : Int32) (n : Nat) : Option (List (Nat × List Nat)) := rd_k m (mv_al m (mk_cl m)) (dk_let u.toBitVec.toNat) n
def dk_ro (m : mv_T) (ws : List (Nat × List Nat)) : List (Nat × List Nat) := rd_fi m (mk_cl m) (mv_al m (mk_cl m)) ws []
def dk_rt (wn : List (Nat × List Nat)) (k : Int32) : List Nat := if k < 0 ∨ nI wn.length ≤ k then [] else rd_out wn k wn.length
theorem dk_let4 (b i : Nat) : dk_let b i < 4 := by simp only [dk_let]; omega
theorem dk_uprd {V : dk_V} {G G' : rz_G} {z : Nat} {b : Bool} {wn wt : List (Nat × List Nat)} {xs ys : List Nat} (h : dk G z V) (hf : rd_fr (z + 6) G G') (hr : rd_is G' (z + 6) b wn wt xs ys) : dk G' z V ∧ dk_fr z G G' :=
  dk_mod' h 3 (by decide) (fun x hx => hf x (by simp only [dk_lo, dk_n] at hx; exact hx)) ⟨b, wn, wt, xs, ys, hr⟩

set_option maxRecDepth 100000 in
set_option maxHeartbeats 4000000 in
theorem c_Desk_read {w : rz_w} {d : Nat} {G : rz_G} {z : Nat} {V : dk_V} (h : dk G z V) (x yn u yk : Int32)  : ru_C w (d + 9) 1 6 y_Desk_read m_Desk_read [.ref z, .int x, .int yn, .int u, .int yk] G (ru_V V z G (fun r V' => ∃ k n ws, k < 6 ∧ n ≤ 10 ∧ x = nI k ∧ yn = nI n ∧ dk_rok yn u ∧ dk_rk (V.1 k) u n = some ws ∧ r = some (.int (nI (dk_ro (V.1 k) ws).length)) ∧ V' = dk_ur V (dk_rt (dk_ro (V.1 k) ws) yk)) (fun c => (c = 0 ∧ dk_no x) ∨ ∃ k, k < 6 ∧ x = nI k ∧ ((c = 1 ∧ ¬ dk_rok yn u) ∨ (c = 2 ∧ ∃ n, n ≤ 10 ∧ yn = nI n ∧ dk_rok yn u ∧ dk_rk (V.1 k) u n = none)))) := by
  obtain ⟨hob, hma⟩ := h 0 (by decide)
  refine ru_enter [some (.ref z), some (.int x), some (.int yn), some (.int u), some (.int yk), none, none] rfl (by decide +kernel) rfl rfl (Nat.le_of_ble_eq_true rfl) rfl ?_
  refine ru_blk' [(.aload_n 0, 1, 0, 0), (.iload_n 1, 1, 0, 0)] (by decide +kernel) (Nat.zero_le _) (Nat.zero_le _) (fun K R hK hR => ?_)
  simp only [↓rx_aload_n0, ↓rx_iload_n1, ↓rx_nil, ↓ry_li0s, ↓ry_li0z, ↓ry_lr0s, ↓ry_lr0z, rz_set, rz_nol, rz_clr, List.set_cons_zero, List.set_cons_succ, rz_tr, Nat.reduceAdd, Int.reduceAdd, Int.reduceToNat, Int.reduceSub, Int.reduceNeg, Int.cast_ofNat_Int]
  refine hK _ _ _ _ ?_
  refine ru_cV2 (As := [.int x]) (b := z) (S := []) l_Desk_73 (by decide +kernel) rfl hob rfl (Nat.le_of_ble_eq_true rfl) rfl rfl (Nat.le_refl _) (Nat.le_refl _) (c_Desk_machineOf h x) (fun c G' hc => by obtain ⟨⟨rfl, rfl⟩, hn⟩ := hc; exact ⟨Or.inl ⟨rfl, hn⟩, h, dk_fr.rf⟩) (fun r G' hr => ?_)
  obtain ⟨hg, k, hk, hkx, rfl⟩ := hr
  have hg := hg.symm
  subst hg
  simp only [Option.toList, List.cons_append, List.nil_append]
  obtain ⟨S, hmc, hm, hs, h3⟩ := dk_m h hk
  have hmo := mc_c hmc
  refine ru_blk' [(.astore 5, 2, 0, 0)] (by decide +kernel) (Nat.zero_le _) (Nat.zero_le _) (fun K R hK hR => ?_)
  simp only [↓rx_astore, ↓rx_nil, ↓ry_r1, rz_set, rz_nol, rz_clr, List.set_cons_zero, List.set_cons_succ, rz_tr, Nat.reduceAdd, Int.reduceAdd, Int.reduceToNat, Int.reduceSub, Int.reduceNeg, Int.cast_ofNat_Int]
  refine hK _ _ _ _ ?_
  have hthrow : ¬ dk_rok yn u → ru_T w (d + 8 + 1) 1 6 m_Desk_read 0 0 25 [some (.ref z), some (.int x), some (.int yn), some (.int u), some (.int yk), some (.ref (z + (1582 + 70 * k))), none] [] G (ru_V V z G (fun r V' => ∃ k n ws, k < 6 ∧ n ≤ 10 ∧ x = nI k ∧ yn = nI n ∧ dk_rok yn u ∧ dk_rk (V.1 k) u n = some ws ∧ r = some (.int (nI (dk_ro (V.1 k) ws).length)) ∧ V' = dk_ur V (dk_rt (dk_ro (V.1 k) ws) yk)) (fun c => (c = 0 ∧ dk_no x) ∨ ∃ k, k < 6 ∧ x = nI k ∧ ((c = 1 ∧ ¬ dk_rok yn u) ∨ (c = 2 ∧ ∃ n, n ≤ 10 ∧ yn = nI n ∧ dk_rok yn u ∧ dk_rk (V.1 k) u n = none)))) := fun q => by
    exact ru_throw (c := 1) (by decide) rfl rfl (by decide +kernel) (by decide +kernel) (by decide +kernel) (by decide +kernel) (Nat.le_of_ble_eq_true rfl) (Nat.le_refl _) (Nat.le_refl _) ⟨Or.inr ⟨k, hk, hkx, Or.inl ⟨rfl, q⟩⟩, h, dk_fr.rf⟩
  refine ru_blk' [(.iload_n 2, 1, 0, 0), (.ifCond .lt 17, 3, 0, 0), (.iload_n 2, 1, 0, 0), (.bipush 10, 2, 0, 0), (.if_icmp .gt 11, 3, 0, 0), (.iload_n 2, 1, 0, 0), (.iload_n 3, 1, 0, 0)] (by decide +kernel) (Nat.zero_le _) (Nat.zero_le _) (fun K R hK hR => ?_)
  simp only [rw_b10, ↓rx_bipush, ↓rx_ifCond_lt, ↓rx_if_icmp_gt, ↓rx_iload_n2, ↓rx_iload_n3, ↓rx_nil, ↓ry_i1, ↓ry_i2, ↓ry_li0s, ↓ry_li0z, rz_set, rz_nol, rz_clr, List.set_cons_zero, List.set_cons_succ, rz_tr, Nat.reduceAdd, Int.reduceAdd, Int.reduceToNat, Int.reduceSub, Int.reduceNeg, Int.cast_ofNat_Int]
  refine ⟨fun c => hK _ _ _ _ (hthrow (fun q => ?_)), fun c => ⟨fun c2 => hK _ _ _ _ (hthrow (fun q => ?_)), fun c2 => hK _ _ _ _ ?_⟩⟩
  · obtain ⟨j, hj, rfl, -⟩ := q
    exact nI_pos (by omega) c
  · obtain ⟨j, hj, rfl, -⟩ := q
    exact absurd ((nI_ltI (by decide) (by omega)).mp c2) (by omega)
  obtain ⟨n, n10, rfl⟩ : ∃ n, n ≤ 10 ∧ yn = nI n := by
    obtain ⟨j, hj, rfl⟩ := nI_of c
    exact ⟨j, Nat.le_of_not_lt (fun q => c2 ((nI_ltI (by decide) hj).mpr q)), rfl⟩
  refine ru_cS (As := [.int (nI n), .int u]) (S := []) l_Desk_133 (by decide +kernel) rfl (Nat.le_of_ble_eq_true rfl) (Nat.zero_le _) (Nat.zero_le _) (c_Desk_holdsNoLetter (d := d + 7) u (n0 := n) (by omega)) (fun r G' hr => ?_)
  obtain ⟨hg, hr⟩ := hr
  have hg := hg.symm
  subst hg
  rcases hr with ⟨⟨i, hi, ei⟩, rfl⟩ | ⟨hno, rfl⟩
  · simp only [Option.toList, List.cons_append, List.nil_append]
    refine ru_blk' [(.ifCond .eq 11, 3, 0, 0)] (by decide +kernel) (Nat.zero_le _) (Nat.zero_le _) (fun K R hK hR => ?_)
    simp only [↓rx_ifCond_eq, ↓rx_nil, ↓ry_i1, rz_set, rz_nol, rz_clr, List.set_cons_zero, List.set_cons_succ, rz_tr, Nat.reduceAdd, Int.reduceAdd, Int.reduceToNat, Int.reduceSub, Int.reduceNeg, Int.cast_ofNat_Int]
    refine ⟨fun q => absurd q (by decide), fun _ => hK _ _ _ _ (hthrow (fun q => ?_))⟩
    obtain ⟨j, hj, e, hl⟩ := q
    have := (nI_eq (by omega) (by omega)).mp e
    subst this
    have := hl i hi
    omega
  simp only [Option.toList, List.cons_append, List.nil_append]
  have hlet : ∀ i, i < n → dk_let u.toBitVec.toNat i < 3 := fun i hi => by
    have h1 := hno i hi
    have h2 := dk_let4 u.toBitVec.toNat i
    omega
  have hrok : dk_rok (nI n) u := ⟨n, n10, rfl, hlet⟩
  refine ru_blk' [(.ifCond .eq 11, 3, 0, 0)] (by decide +kernel) (Nat.zero_le _) (Nat.zero_le _) (fun K R hK hR => ?_)
  simp only [↓rx_ifCond_eq, ↓rx_nil, ↓ry_i1, rz_set, rz_nol, rz_clr, List.set_cons_zero, List.set_cons_succ, rz_tr, Nat.reduceAdd, Int.reduceAdd, Int.reduceToNat, Int.reduceSub, Int.reduceNeg, Int.cast_ofNat_Int]
  refine ⟨fun _ => hK _ _ _ _ ?_, fun q => absurd trivial q⟩
  refine ru_blk' [(.aload 5, 2, 0, 0)] (by decide +kernel) (Nat.zero_le _) (Nat.zero_le _) (fun K R hK hR => ?_)
  simp only [↓rx_aload, ↓rx_nil, ↓ry_lr0s, ↓ry_lr0z, rz_set, rz_nol, rz_clr, List.set_cons_zero, List.set_cons_succ, rz_tr, Nat.reduceAdd, Int.reduceAdd, Int.reduceToNat, Int.reduceSub, Int.reduceNeg, Int.cast_ofNat_Int]
  refine hK _ _ _ _ ?_
  have hc := c_Mach_settle (w := w) (d := d + 6) (G := G) (a := z + (1582 + 70 * k)) (I := S.1) (A := S.2.1) (J := S.2.2.1) (X := S.2.2.2.1) (P := S.2.2.2.2) hm hs
  rw [mc_id hmc] at hc
  refine ru_cV (As := []) (b := z + (1582 + 70 * k)) (S := []) l_Desk_121 (by decide +kernel) rfl hmo rfl (Nat.le_of_ble_eq_true rfl) (Nat.zero_le _) (Nat.zero_le _) (hc) (fun r G' hr => ?_)
  obtain ⟨rfl, I', A', rfl, hm', hs'⟩ := hr
  simp only [Option.toList, List.nil_append]
  have hd1 := dk_same (J := S.2.2.1) (P := S.2.2.2.2) h hk hm' (Or.inr hs') h3
  have hmc' : mc_is (mc_put G (z + (1582 + 70 * k)) I' A' S.2.2.1 S.2.2.2.1 S.2.2.2.2) (z + (1582 + 70 * k)) I' A' S.2.2.1 S.2.2.2.1 S.2.2.2.2 := fun o ho => mc_at ho
  generalize mc_put G (z + (1582 + 70 * k)) I' A' S.2.2.1 S.2.2.2.1 S.2.2.2.2 = G1 at *
  have hob1 := (hd1.1 0 (by decide)).1
  obtain ⟨b3, wn3, wt3, xs3, ys3, hrd3⟩ := hd1.1 3 (by decide)
  refine ru_blk' [(.aload_n 0, 1, 0, 0), (.getfield 30, 3, 9, 3), (.aload 5, 2, 0, 0), (.iload_n 2, 1, 0, 0), (.iload_n 3, 1, 0, 0)] (by decide +kernel) (Nat.zero_le _) (Nat.zero_le _) (fun K R hK hR => ?_)
  simp only [↓rx_aload, ↓rx_aload_n0, ↓rx_getfield, ↓rx_iload_n2, ↓rx_iload_n3, ↓rx_nil, ↓ry_fvs, ↓ry_fvz, ↓ry_li0s, ↓ry_li0z, ↓ry_lr0s, ↓ry_lr0z, ↓ry_obu, ↓ry_r1, ↓rh_ob hob1, dk_fs, rz_set, rz_nol, rz_clr, List.set_cons_zero, List.set_cons_succ, rz_tr, Nat.reduceAdd, Int.reduceAdd, Int.reduceToNat, Int.reduceSub, Int.reduceNeg, Int.cast_ofNat_Int]
  refine hK _ _ _ _ ?_
  refine ru_cV (As := [.ref (z + (1582 + 70 * k)), .int (nI n), .int u]) (b := z + 6) (S := []) l_Desk_137 (by decide +kernel) rfl hrd3.2.1 rfl (Nat.le_of_ble_eq_true rfl) (Nat.zero_le _) (Nat.zero_le _) (c_Read_outputsOf (d := d + 3) n10 u hlet hrd3 hmc' hm' hs' h3 (by unfold mc_ap; omega)) (fun r G' hr => ?_)
  obtain ⟨hfr, hr⟩ := hr
  rcases hr with ⟨hn, rfl, b4, wn4, wt4, xs4, ys4, hrd4⟩ | ⟨ws, hsome, rfl, b4, wt4, xs4, ys4, hrd4⟩
  · simp only [Option.toList, List.cons_append, List.nil_append]
    have hd2 := dk_uprd hd1.1 hfr hrd4
    refine ru_blk' [(.istore 6, 2, 0, 0)] (by decide +kernel) (Nat.zero_le _) (Nat.zero_le _) (fun K R hK hR => ?_)
    simp only [↓rx_istore, ↓rx_nil, ↓ry_i1, rz_set, rz_nol, rz_clr, List.set_cons_zero, List.set_cons_succ, rz_tr, Nat.reduceAdd, Int.reduceAdd, Int.reduceToNat, Int.reduceSub, Int.reduceNeg, Int.cast_ofNat_Int]
    refine hK _ _ _ _ ?_
    refine ru_blk' [(.iload 6, 2, 0, 0), (.iconst (-1), 1, 0, 0), (.if_icmp .ne 11, 3, 0, 0)] (by decide +kernel) (Nat.zero_le _) (Nat.zero_le _) (fun K R hK hR => ?_)
    simp only [rw_cm1, ↓rx_iconst, ↓rx_if_icmp_ne, ↓rx_iload, ↓rx_nil, ↓ry_i2, ↓ry_li0s, ↓ry_li0z, rz_set, rz_nol, rz_clr, List.set_cons_zero, List.set_cons_succ, rz_tr, Nat.reduceAdd, Int.reduceAdd, Int.reduceToNat, Int.reduceSub, Int.reduceNeg, Int.cast_ofNat_Int]
    refine ⟨fun q => absurd trivial q, fun _ => hK _ _ _ _ ?_⟩
    exact ru_throw (c := 2) (by decide) rfl rfl (by decide +kernel) (by decide +kernel) (by decide +kernel) (by decide +kernel) (Nat.le_of_ble_eq_true rfl) (Nat.le_refl _) (Nat.le_refl _) ⟨Or.inr ⟨k, hk, hkx, Or.inr ⟨rfl, n, n10, rfl, hrok, hn⟩⟩, hd2.1, hd1.2.trans hd2.2⟩
  simp only [Option.toList, List.cons_append, List.nil_append]
  have hd2 := dk_uprd hd1.1 hfr hrd4
  have hlen : (rd_fi (V.1 k) (mk_cl (V.1 k)) (mv_al (V.1 k) (mk_cl (V.1 k))) ws []).length ≤ 200 := by
    obtain ⟨-, -, -, -, h5, -⟩ := hrd4
    obtain ⟨f, sl, -, -, -, -, -, h6, -⟩ := h5
    rw [List.length_map] at h6
    exact h6
  have hob2 := (hd2.1 0 (by decide)).1
  have hw2 : wd_is G' (z + 2) 257 V.2.1 := hd2.1 1 (by decide)
  refine ru_blk' [(.istore 6, 2, 0, 0)] (by decide +kernel) (Nat.zero_le _) (Nat.zero_le _) (fun K R hK hR => ?_)
  simp only [↓rx_istore, ↓rx_nil, ↓ry_i1, rz_set, rz_nol, rz_clr, List.set_cons_zero, List.set_cons_succ, rz_tr, Nat.reduceAdd, Int.reduceAdd, Int.reduceToNat, Int.reduceSub, Int.reduceNeg, Int.cast_ofNat_Int]
  refine hK _ _ _ _ ?_
  refine ru_blk' [(.iload 6, 2, 0, 0), (.iconst (-1), 1, 0, 0), (.if_icmp .ne 11, 3, 0, 0)] (by decide +kernel) (Nat.zero_le _) (Nat.zero_le _) (fun K R hK hR => ?_)
  simp only [rw_cm1, ↓rx_iconst, ↓rx_if_icmp_ne, ↓rx_iload, ↓rx_nil, ↓ry_i2, ↓ry_li0s, ↓ry_li0z, rz_set, rz_nol, rz_clr, List.set_cons_zero, List.set_cons_succ, rz_tr, Nat.reduceAdd, Int.reduceAdd, Int.reduceToNat, Int.reduceSub, Int.reduceNeg, Int.cast_ofNat_Int]
  refine ⟨fun _ => hK _ _ _ _ ?_, fun q => absurd q (fun q => ?_)⟩
  rotate_left
  · have h1 := congrArg Int32.toInt q
    rw [nI_toInt (by omega)] at h1
    have h2 : (-1 : Int32).toInt = -1 := rfl
    omega
  refine ru_blk' [(.aload_n 0, 1, 0, 0), (.getfield 30, 3, 9, 3), (.iload 4, 2, 0, 0), (.aload_n 0, 1, 0, 0), (.getfield 20, 3, 9, 1)] (by decide +kernel) (Nat.zero_le _) (Nat.zero_le _) (fun K R hK hR => ?_)
  simp only [↓rx_aload_n0, ↓rx_getfield, ↓rx_iload, ↓rx_nil, ↓ry_fvs, ↓ry_fvz, ↓ry_li0s, ↓ry_li0z, ↓ry_lr0s, ↓ry_lr0z, ↓ry_obu, ↓ry_r1, ↓rh_ob hob2, dk_fs, rz_set, rz_nol, rz_clr, List.set_cons_zero, List.set_cons_succ, rz_tr, Nat.reduceAdd, Int.reduceAdd, Int.reduceToNat, Int.reduceSub, Int.reduceNeg, Int.cast_ofNat_Int]
  refine hK _ _ _ _ ?_
  refine ru_cV (As := [.int yk, .ref (z + 2)]) (b := z + 6) (S := []) l_Desk_141 (by decide +kernel) rfl hrd4.2.1 rfl (Nat.le_of_ble_eq_true rfl) (Nat.zero_le _) (Nat.zero_le _) (c_Read_tellOutput (d := d + 5) (c := 257) (by decide) yk hrd4 hw2 (Or.inl (by omega))) (fun r G2 hr => ?_)
  obtain ⟨rfl, ⟨xs5, ys5, hrd5⟩, hw5, hio⟩ := hr
  simp only [Option.toList, List.nil_append]
  refine ru_blk' [(.iload 6, 2, 0, 0), (.ireturn, 1, 0, 0)] (by decide +kernel) (Nat.zero_le _) (Nat.zero_le _) (fun K R hK hR => ?_)
  simp only [↓rx_iload, ↓rx_ireturn, ↓rx_nil, ↓ry_li0s, ↓ry_li0z, rz_set, rz_nol, rz_clr, List.set_cons_zero, List.set_cons_succ, rz_tr, Nat.reduceAdd, Int.reduceAdd, Int.reduceToNat, Int.reduceSub, Int.reduceNeg, Int.cast_ofNat_Int]
  have hdm : dk (fun x => if z + 2 ≤ x ∧ x < z + 4 then G' x else G2 x) z V ∧ dk_fr z G' (fun x => if z + 2 ≤ x ∧ x < z + 4 then G' x else G2 x) := by
    refine dk_uprd (b := b4) (wn := rd_fi (V.1 k) (mk_cl (V.1 k)) (mv_al (V.1 k) (mk_cl (V.1 k))) ws []) (wt := wt4) (xs := xs5) (ys := ys5) hd2.1 (fun x hx => ?_) (rd_is_keep hrd5 (fun x h1 h2 => ?_))
    · split
      · rfl
      · exact hio x hx (by omega) (by omega)
    · rw [if_neg (by omega)]
  have hd3 := dk_upw (G' := G2) (xs := dk_rt (dk_ro (V.1 k) ws) yk) hdm.1 (fun x hx => by rw [if_neg (by omega)]) hw5
  exact hR _ _ (rz_nb_i (by decide)) ⟨⟨rfl, rfl⟩, rfl, _, ⟨k, n, ws, hk, n10, hkx, rfl, hrok, hsome, rfl, rfl⟩, hd3.1, ((hd1.2.trans hd2.2).trans hdm.2).trans hd3.2⟩
set_option maxRecDepth 100000 in
set_option maxHeartbeats 4000000 in
theorem c_Desk_sign {w : rz_w} {d : Nat} {G : rz_G} {z : Nat} {V : dk_V} (h : dk G z V) (x : Int32) (h8 : ∀ x ∈ V.2.1, x < 8) : ru_C w (d + 9) 1 6 y_Desk_sign m_Desk_sign [.ref z, .int x] G (ru_V V z G (fun r V' => V' = V ∧ ∃ (j : Nat) (hj : j < V.2.1.length), x = nI j ∧ r = some (.int (nI V.2.1[j]))) (fun c => c = 0 ∧ ∀ j, j < V.2.1.length → x ≠ nI j)) := by
  obtain ⟨hob, hma⟩ := h 0 (by decide)
  refine ru_enter [some (.ref z), some (.int x)] rfl (by decide +kernel) rfl rfl (Nat.le_of_ble_eq_true rfl) rfl ?_
  have hw : wd_is G (z + 2) 257 V.2.1 := h 1 (by decide)
  have hlen : V.2.1.length ≤ 4112 := hw.2.2.1
  have hthrow : (x < 0 ∨ ¬ x < nI V.2.1.length) → ru_T w (d + 9) 1 6 m_Desk_sign 0 0 15 [some (.ref z), some (.int x)] [] G (ru_V V z G (fun r V' => V' = V ∧ ∃ (j : Nat) (hj : j < V.2.1.length), x = nI j ∧ r = some (.int (nI V.2.1[j]))) (fun c => c = 0 ∧ ∀ j, j < V.2.1.length → x ≠ nI j)) := fun q => by
    exact ru_throw (c := 0) (by decide) rfl rfl (by decide +kernel) (by decide +kernel) (by decide +kernel) (by decide +kernel) (Nat.le_of_ble_eq_true rfl) (Nat.le_refl _) (Nat.le_refl _) ⟨⟨rfl, nI_no6 (by omega) q⟩, h, dk_fr.rf⟩
  refine ru_blk' [(.iload_n 1, 1, 0, 0), (.ifCond .lt 14, 3, 0, 0), (.iload_n 1, 1, 0, 0), (.aload_n 0, 1, 0, 0), (.getfield 20, 3, 9, 1), (.getfield 197, 3, 0, 1), (.if_icmp .lt 11, 3, 0, 0)] (by decide +kernel) (Nat.zero_le _) (Nat.zero_le _) (fun K R hK hR => ?_)
  simp only [↓rx_aload_n0, ↓rx_getfield, ↓rx_ifCond_lt, ↓rx_if_icmp_lt, ↓rx_iload_n1, ↓rx_nil, ↓ry_fvs, ↓ry_fvz, ↓ry_i1, ↓ry_i2, ↓ry_li0s, ↓ry_li0z, ↓ry_lr0s, ↓ry_lr0z, ↓ry_obu, ↓ry_r1, ↓rh_ob hob, dk_fs, ↓rh_ob hw.1, rz_set, rz_nol, rz_clr, List.set_cons_zero, List.set_cons_succ, rz_tr, Nat.reduceAdd, Int.reduceAdd, Int.reduceToNat, Int.reduceSub, Int.reduceNeg, Int.cast_ofNat_Int]
  refine ⟨fun c => hK _ _ _ _ (hthrow (Or.inl c)), fun c => ⟨fun c2 => hK _ _ _ _ ?_, fun c2 => hK _ _ _ _ (hthrow (Or.inr c2))⟩⟩
  obtain ⟨j, hj, rfl⟩ := nI_in6 (by omega) c c2
  refine ru_blk' [(.aload_n 0, 1, 0, 0), (.getfield 20, 3, 9, 1), (.iload_n 1, 1, 0, 0)] (by decide +kernel) (Nat.zero_le _) (Nat.zero_le _) (fun K R hK hR => ?_)
  simp only [↓rx_aload_n0, ↓rx_getfield, ↓rx_iload_n1, ↓rx_nil, ↓ry_fvs, ↓ry_fvz, ↓ry_li0s, ↓ry_li0z, ↓ry_lr0s, ↓ry_lr0z, ↓ry_obu, ↓ry_r1, ↓rh_ob hob, dk_fs, rz_set, rz_nol, rz_clr, List.set_cons_zero, List.set_cons_succ, rz_tr, Nat.reduceAdd, Int.reduceAdd, Int.reduceToNat, Int.reduceSub, Int.reduceNeg, Int.cast_ofNat_Int]
  refine hK _ _ _ _ ?_
  refine ru_cV (As := [.int (nI j)]) (b := z + 2) (S := []) l_Desk_207 (by decide +kernel) rfl hw.1 rfl (Nat.le_of_ble_eq_true rfl) (Nat.zero_le _) (Nat.zero_le _) (c_Word_at hw h8 (nI j)) (fun r G' hr => ?_)
  obtain ⟨hg, hr⟩ := hr
  have hg := hg.symm
  subst hg
  rcases hr with ⟨i, hi, e, rfl⟩ | ⟨hbad, -⟩
  rotate_left
  · rcases hbad with q | q
    · exact absurd q (nI_pos (by omega))
    · exact absurd ((nI_leI (by omega) (by omega)).mp q) (by omega)
  have e := (nI_eq (by omega) (by omega)).mp e
  subst e
  simp only [Option.toList, List.cons_append, List.nil_append]
  refine ru_blk' [(.ireturn, 1, 0, 0)] (by decide +kernel) (Nat.zero_le _) (Nat.zero_le _) (fun K R hK hR => ?_)
  simp only [↓rx_ireturn, ↓rx_nil, rz_set, rz_nol, rz_clr, List.set_cons_zero, List.set_cons_succ, rz_tr, Nat.reduceAdd, Int.reduceAdd, Int.reduceToNat, Int.reduceSub, Int.reduceNeg, Int.cast_ofNat_Int]
  exact hR _ _ (rz_nb_i (by decide)) ⟨⟨rfl, rfl⟩, rfl, V, ⟨rfl, j, hj, rfl, rfl⟩, h, dk_fr.rf⟩
