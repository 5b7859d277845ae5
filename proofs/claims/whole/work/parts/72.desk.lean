/-! WriterDesk: isSame -/
def dk_dm (m1 m2 : mv_T) : dm_sT := dm_res m1 m2 (mk_cl m1) (mk_cl m2)
/-- a word with other domains -/
def dk_w0 (m1 m2 : mv_T) (W : List Nat) : Prop := match (dk_dm m1 m2).2 with
  | none => W = []
  | some g => dm_W (dk_dm m1 m2).1 g W
/-- the word that isSame tells -/
def dk_w1 (m1 m2 : mv_T) (W0 : List Nat) : List Nat := match (df_S m1 m2).2.2 with
  | none => W0
  | some g => if (dk_dm m1 m2).2 = none ∨ wd_bef (ps_wf g (df_S m1 m2)) W0 = true then ps_wf g (df_S m1 m2) else W0
theorem dk_upsw {V : dk_V} {G : rz_G} {z : Nat} {xs : List Nat} (h : dk G z V) (hx : wd_ok 5 xs) : dk (wd_put G (z + 4) 5 xs) z V ∧ dk_fr z G (wd_put G (z + 4) 5 xs) := dk_mod' h 2 (by decide) (fun x hx => wd_pout (by simp only [dk_lo, dk_n] at hx; simp at hx; omega) (by simp only [dk_lo, dk_n] at hx; simp at hx; omega)) ⟨xs, wd_pis hx⟩
theorem dk_updm {V : dk_V} {G : rz_G} {z : Nat} {I : Nat → Int32} {A : Nat → Nat → Int32} {J : Nat → Nat → Int64} {X : Nat → List Nat} {P : Nat → Nat} (h : dk G z V) : (dk (dm_put G (z + 322) I A J X P) z V ∧ dk_fr z G (dm_put G (z + 322) I A J X P)) ∧ ∀ j, dk_st G z V j → dk_st (dm_put G (z + 322) I A J X P) z V j :=
  ⟨dk_mod' h 5 (by decide) (fun x hx => dm_out hx) ⟨I, A, J, X, P, fun o ho => dm_at ho⟩, fun j hj => dk_st_keep hj (fun x h1 h2 => dm_out (by omega))⟩

set_option maxRecDepth 100000 in
set_option maxHeartbeats 4000000 in
theorem c_Desk_isSame {w : rz_w} {d : Nat} {G : rz_G} {z : Nat} {V : dk_V} (h : dk G z V) (x y : Int32)  : ru_C w (d + 9) 1 6 y_Desk_isSame m_Desk_isSame [.ref z, .int x, .int y] G (ru_V V z G (fun r V' => ∃ k1 k2 W0, k1 < 6 ∧ k2 < 6 ∧ x = nI k1 ∧ y = nI k2 ∧ (df_S (V.1 k1) (V.1 k1)).2.2 = none ∧ (df_S (V.1 k2) (V.1 k2)).2.2 = none ∧ dk_w0 (V.1 k1) (V.1 k2) W0 ∧ W0.length ≤ 4096 ∧ (∀ x ∈ W0, x < 3) ∧ (∀ x ∈ dk_w1 (V.1 k1) (V.1 k2) W0, x < 3) ∧ r = some (.int (rz_b (!(dk_dm (V.1 k1) (V.1 k2)).2.isSome && !(df_S (V.1 k1) (V.1 k2)).2.2.isSome))) ∧ V' = dk_ur V (dk_w1 (V.1 k1) (V.1 k2) W0)) (fun c => (c = 0 ∧ (dk_no x ∨ dk_no y)) ∨ (c = 3 ∧ ∃ k1 k2, k1 < 6 ∧ k2 < 6 ∧ x = nI k1 ∧ y = nI k2 ∧ ¬ ((df_S (V.1 k1) (V.1 k1)).2.2 = none ∧ (df_S (V.1 k2) (V.1 k2)).2.2 = none)))) := by
  obtain ⟨hob, hma⟩ := h 0 (by decide)
  refine ru_enter [some (.ref z), some (.int x), some (.int y), none, none, none, none] rfl (by decide +kernel) rfl rfl (Nat.le_of_ble_eq_true rfl) rfl ?_
  refine ru_blk' [(.aload_n 0, 1, 0, 0), (.iload_n 1, 1, 0, 0)] (by decide +kernel) (Nat.zero_le _) (Nat.zero_le _) (fun K R hK hR => ?_)
  simp only [↓rx_aload_n0, ↓rx_iload_n1, ↓rx_nil, ↓ry_li0s, ↓ry_li0z, ↓ry_lr0s, ↓ry_lr0z, rz_set, rz_nol, rz_clr, List.set_cons_zero, List.set_cons_succ, rz_tr, Nat.reduceAdd, Int.reduceAdd, Int.reduceToNat, Int.reduceSub, Int.reduceNeg, Int.cast_ofNat_Int]
  refine hK _ _ _ _ ?_
  refine ru_cV2 (As := [.int x]) (b := z) (S := []) l_Desk_73 (by decide +kernel) rfl hob rfl (Nat.le_of_ble_eq_true rfl) rfl rfl (Nat.le_refl _) (Nat.le_refl _) (c_Desk_machineOf h x) (fun c G' hc => by obtain ⟨⟨rfl, rfl⟩, hn⟩ := hc; exact ⟨Or.inl ⟨rfl, Or.inl hn⟩, h, dk_fr.rf⟩) (fun r G' hr => ?_)
  obtain ⟨hg, k1, hk1, hx1, rfl⟩ := hr
  have hg := hg.symm
  subst hg
  simp only [Option.toList, List.cons_append, List.nil_append]
  refine ru_blk' [(.astore_n 3, 1, 0, 0)] (by decide +kernel) (Nat.zero_le _) (Nat.zero_le _) (fun K R hK hR => ?_)
  simp only [↓rx_astore_n3, ↓rx_nil, ↓ry_r1, rz_set, rz_nol, rz_clr, List.set_cons_zero, List.set_cons_succ, rz_tr, Nat.reduceAdd, Int.reduceAdd, Int.reduceToNat, Int.reduceSub, Int.reduceNeg, Int.cast_ofNat_Int]
  refine hK _ _ _ _ ?_
  refine ru_blk' [(.aload_n 0, 1, 0, 0), (.iload_n 2, 1, 0, 0)] (by decide +kernel) (Nat.zero_le _) (Nat.zero_le _) (fun K R hK hR => ?_)
  simp only [↓rx_aload_n0, ↓rx_iload_n2, ↓rx_nil, ↓ry_li0s, ↓ry_li0z, ↓ry_lr0s, ↓ry_lr0z, rz_set, rz_nol, rz_clr, List.set_cons_zero, List.set_cons_succ, rz_tr, Nat.reduceAdd, Int.reduceAdd, Int.reduceToNat, Int.reduceSub, Int.reduceNeg, Int.cast_ofNat_Int]
  refine hK _ _ _ _ ?_
  refine ru_cV2 (As := [.int y]) (b := z) (S := []) l_Desk_73 (by decide +kernel) rfl hob rfl (Nat.le_of_ble_eq_true rfl) rfl rfl (Nat.le_refl _) (Nat.le_refl _) (c_Desk_machineOf h y) (fun c G' hc => by obtain ⟨⟨rfl, rfl⟩, hn⟩ := hc; exact ⟨Or.inl ⟨rfl, Or.inr hn⟩, h, dk_fr.rf⟩) (fun r G' hr => ?_)
  obtain ⟨hg, k2, hk2, hx2, rfl⟩ := hr
  have hg := hg.symm
  subst hg
  simp only [Option.toList, List.cons_append, List.nil_append]
  refine ru_blk' [(.astore 4, 2, 0, 0)] (by decide +kernel) (Nat.zero_le _) (Nat.zero_le _) (fun K R hK hR => ?_)
  simp only [↓rx_astore, ↓rx_nil, ↓ry_r1, rz_set, rz_nol, rz_clr, List.set_cons_zero, List.set_cons_succ, rz_tr, Nat.reduceAdd, Int.reduceAdd, Int.reduceToNat, Int.reduceSub, Int.reduceNeg, Int.cast_ofNat_Int]
  refine hK _ _ _ _ ?_
  refine ru_blk' [(.aload_n 0, 1, 0, 0), (.aload_n 3, 1, 0, 0)] (by decide +kernel) (Nat.zero_le _) (Nat.zero_le _) (fun K R hK hR => ?_)
  simp only [↓rx_aload_n0, ↓rx_aload_n3, ↓rx_nil, ↓ry_lr0s, ↓ry_lr0z, rz_set, rz_nol, rz_clr, List.set_cons_zero, List.set_cons_succ, rz_tr, Nat.reduceAdd, Int.reduceAdd, Int.reduceToNat, Int.reduceSub, Int.reduceNeg, Int.cast_ofNat_Int]
  refine hK _ _ _ _ ?_
  refine ru_cV (As := [.ref (z + (1582 + 70 * k1))]) (b := z) (S := []) l_Desk_145 (by decide +kernel) rfl hob rfl (Nat.le_of_ble_eq_true rfl) (Nat.zero_le _) (Nat.zero_le _) (c_Desk_hasOneOutputEach (d := d + 2) h hk1) (fun r G1 hr => ?_)
  obtain ⟨rfl, hd1, hs1, hp1⟩ := hr
  simp only [Option.toList, List.cons_append, List.nil_append]
  have hthrow : ∀ G', dk G' z V → dk_fr z G G' → ¬ ((df_S (V.1 k1) (V.1 k1)).2.2 = none ∧ (df_S (V.1 k2) (V.1 k2)).2.2 = none) → ru_T w (d + 8 + 1) 1 6 m_Desk_isSame 0 0 30 [some (.ref z), some (.int x), some (.int y), some (.ref (z + (1582 + 70 * k1))), some (.ref (z + (1582 + 70 * k2))), none, none] [] G' (ru_V V z G (fun r V' => ∃ k1 k2 W0, k1 < 6 ∧ k2 < 6 ∧ x = nI k1 ∧ y = nI k2 ∧ (df_S (V.1 k1) (V.1 k1)).2.2 = none ∧ (df_S (V.1 k2) (V.1 k2)).2.2 = none ∧ dk_w0 (V.1 k1) (V.1 k2) W0 ∧ W0.length ≤ 4096 ∧ (∀ x ∈ W0, x < 3) ∧ (∀ x ∈ dk_w1 (V.1 k1) (V.1 k2) W0, x < 3) ∧ r = some (.int (rz_b (!(dk_dm (V.1 k1) (V.1 k2)).2.isSome && !(df_S (V.1 k1) (V.1 k2)).2.2.isSome))) ∧ V' = dk_ur V (dk_w1 (V.1 k1) (V.1 k2) W0)) (fun c => (c = 0 ∧ (dk_no x ∨ dk_no y)) ∨ (c = 3 ∧ ∃ k1 k2, k1 < 6 ∧ k2 < 6 ∧ x = nI k1 ∧ y = nI k2 ∧ ¬ ((df_S (V.1 k1) (V.1 k1)).2.2 = none ∧ (df_S (V.1 k2) (V.1 k2)).2.2 = none)))) := fun G' q1 q2 q3 => by
    exact ru_throw (c := 3) (by decide) rfl rfl (by decide +kernel) (by decide +kernel) (by decide +kernel) (by decide +kernel) (Nat.le_of_ble_eq_true rfl) (Nat.le_refl _) (Nat.le_refl _) ⟨Or.inr ⟨rfl, k1, k2, hk1, hk2, hx1, hx2, q3⟩, q1, q2⟩
  have hbn : ∀ m, (df_S m m).2.2 ≠ none → (!(df_S m m).2.2.isSome) = false := fun m q => by
    cases e : (df_S m m).2.2 with
    | none => exact absurd e q
    | some g => rfl
  by_cases f1 : (df_S (V.1 k1) (V.1 k1)).2.2 = none
  rotate_left
  · rw [hbn _ f1]
    refine ru_blk' [(.ifCond .eq 12, 3, 0, 0)] (by decide +kernel) (Nat.zero_le _) (Nat.zero_le _) (fun K R hK hR => ?_)
    simp only [↓rx_ifCond_eq, ↓rx_nil, ↓ry_i1, rz_set, rz_nol, rz_clr, List.set_cons_zero, List.set_cons_succ, rz_tr, Nat.reduceAdd, Int.reduceAdd, Int.reduceToNat, Int.reduceSub, Int.reduceNeg, Int.cast_ofNat_Int]
    exact ⟨fun _ => hK _ _ _ _ (hthrow G1 hd1.1 hd1.2 (fun q => f1 q.1)), fun q => absurd rfl q⟩
  have hb1 : (!(df_S (V.1 k1) (V.1 k1)).2.2.isSome) = true := by rw [f1]; rfl
  rw [hb1]
  refine ru_blk' [(.ifCond .eq 12, 3, 0, 0), (.aload_n 0, 1, 0, 0), (.aload 4, 2, 0, 0)] (by decide +kernel) (Nat.zero_le _) (Nat.zero_le _) (fun K R hK hR => ?_)
  simp only [↓rx_aload, ↓rx_aload_n0, ↓rx_ifCond_eq, ↓rx_nil, ↓ry_i1, ↓ry_lr0s, ↓ry_lr0z, rz_set, rz_nol, rz_clr, List.set_cons_zero, List.set_cons_succ, rz_tr, Nat.reduceAdd, Int.reduceAdd, Int.reduceToNat, Int.reduceSub, Int.reduceNeg, Int.cast_ofNat_Int]
  refine ⟨fun q => absurd q (by decide), fun _ => hK _ _ _ _ ?_⟩
  refine ru_cV (As := [.ref (z + (1582 + 70 * k2))]) (b := z) (S := []) l_Desk_145 (by decide +kernel) rfl (hd1.1 0 (by decide)).1 rfl (Nat.le_of_ble_eq_true rfl) (Nat.zero_le _) (Nat.zero_le _) (c_Desk_hasOneOutputEach (d := d + 2) hd1.1 hk2) (fun r G2 hr => ?_)
  obtain ⟨rfl, hd2, hs2, hp2⟩ := hr
  simp only [Option.toList, List.cons_append, List.nil_append]
  have hfr2 := hd1.2.trans hd2.2
  by_cases f2 : (df_S (V.1 k2) (V.1 k2)).2.2 = none
  rotate_left
  · rw [hbn _ f2]
    refine ru_blk' [(.ifCond .ne 11, 3, 0, 0)] (by decide +kernel) (Nat.zero_le _) (Nat.zero_le _) (fun K R hK hR => ?_)
    simp only [↓rx_ifCond_ne, ↓rx_nil, ↓ry_i1, rz_set, rz_nol, rz_clr, List.set_cons_zero, List.set_cons_succ, rz_tr, Nat.reduceAdd, Int.reduceAdd, Int.reduceToNat, Int.reduceSub, Int.reduceNeg, Int.cast_ofNat_Int]
    exact ⟨fun q => absurd rfl q, fun _ => hK _ _ _ _ (hthrow G2 hd2.1 hfr2 (fun q => f2 q.2))⟩
  have hb2 : (!(df_S (V.1 k2) (V.1 k2)).2.2.isSome) = true := by rw [f2]; rfl
  rw [hb2]
  refine ru_blk' [(.ifCond .ne 11, 3, 0, 0)] (by decide +kernel) (Nat.zero_le _) (Nat.zero_le _) (fun K R hK hR => ?_)
  simp only [↓rx_ifCond_ne, ↓rx_nil, ↓ry_i1, rz_set, rz_nol, rz_clr, List.set_cons_zero, List.set_cons_succ, rz_tr, Nat.reduceAdd, Int.reduceAdd, Int.reduceToNat, Int.reduceSub, Int.reduceNeg, Int.cast_ofNat_Int]
  refine ⟨fun _ => hK _ _ _ _ ?_, fun q => absurd q (by decide)⟩
  have st1 : dk_st G2 z V k1 := hs2.2 k1 hs1.1
  have st2 : dk_st G2 z V k2 := hs2.1
  have hob2 := (hd2.1 0 (by decide)).1
  have hw2 : wd_is G2 (z + 2) 257 V.2.1 := hd2.1 1 (by decide)
  refine ru_blk' [(.aload_n 0, 1, 0, 0), (.getfield 20, 3, 9, 1)] (by decide +kernel) (Nat.zero_le _) (Nat.zero_le _) (fun K R hK hR => ?_)
  simp only [↓rx_aload_n0, ↓rx_getfield, ↓rx_nil, ↓ry_fvs, ↓ry_fvz, ↓ry_lr0s, ↓ry_lr0z, ↓ry_obu, ↓ry_r1, ↓rh_ob hob2, dk_fs, rz_set, rz_nol, rz_clr, List.set_cons_zero, List.set_cons_succ, rz_tr, Nat.reduceAdd, Int.reduceAdd, Int.reduceToNat, Int.reduceSub, Int.reduceNeg, Int.cast_ofNat_Int]
  refine hK _ _ _ _ ?_
  refine ru_cV (As := []) (b := z + 2) (S := []) l_Desk_149 (by decide +kernel) rfl hw2.1 rfl (Nat.le_of_ble_eq_true rfl) (Nat.zero_le _) (Nat.zero_le _) (c_Word_clear hw2) (fun r G' hr => ?_)
  obtain ⟨rfl, rfl⟩ := hr
  simp only [Option.toList, List.nil_append]
  have hd3 := dk_put (xs := []) hd2.1 (wd_ok_nil (by decide))
  have hfr3 := hfr2.trans hd3.2
  have st1 : dk_st (wd_put G2 (z + 2) 257 []) z V k1 := dk_st_keep st1 (fun x h1 h2 => wd_pout (by omega) (by omega))
  have st2 : dk_st (wd_put G2 (z + 2) 257 []) z V k2 := dk_st_keep st2 (fun x h1 h2 => wd_pout (by omega) (by omega))
  generalize wd_put G2 (z + 2) 257 [] = G3 at *
  have hd3 := hd3.1
  have hob3 := (hd3 0 (by decide)).1
  have hw3 : wd_is G3 (z + 2) 257 [] := hd3 1 (by decide)
  obtain ⟨I5, A5, J5, X5, P5, hdm⟩ := hd3 5 (by decide)
  obtain ⟨S1, c1, m1, s1, w1⟩ := id st1
  obtain ⟨S2, c2, m2, s2, w2⟩ := id st2
  refine ru_blk' [(.aload_n 0, 1, 0, 0), (.getfield 44, 3, 9, 5), (.aload_n 3, 1, 0, 0), (.aload 4, 2, 0, 0)] (by decide +kernel) (Nat.zero_le _) (Nat.zero_le _) (fun K R hK hR => ?_)
  simp only [↓rx_aload, ↓rx_aload_n0, ↓rx_aload_n3, ↓rx_getfield, ↓rx_nil, ↓ry_fvs, ↓ry_fvz, ↓ry_lr0s, ↓ry_lr0z, ↓ry_obu, ↓ry_r1, ↓rh_ob hob3, dk_fs, rz_set, rz_nol, rz_clr, List.set_cons_zero, List.set_cons_succ, rz_tr, Nat.reduceAdd, Int.reduceAdd, Int.reduceToNat, Int.reduceSub, Int.reduceNeg, Int.cast_ofNat_Int]
  refine hK _ _ _ _ ?_
  have hcd := c_Dom_search (w := w) (d := d + 6) (G := G3) (a := z + 322) (I := I5) (A := A5) (J := J5) (X := X5) (P := P5) (a1 := z + (1582 + 70 * k1)) (a2 := z + (1582 + 70 * k2)) (S1 := S1) (S2 := S2) (m1 := V.1 k1) (m2 := V.1 k2) (c1 := mk_cl (V.1 k1)) (c2 := mk_cl (V.1 k2)) ⟨c1, m1, s1, by unfold mc_ap; omega⟩ ⟨c2, m2, s2, by unfold mc_ap; omega⟩
  rw [dm_id hdm] at hcd
  refine ru_cV (As := [.ref (z + (1582 + 70 * k1)), .ref (z + (1582 + 70 * k2))]) (b := z + 322) (S := []) l_Desk_159 (by decide +kernel) rfl (hdm 0 (by decide)) rfl (Nat.le_of_ble_eq_true rfl) (Nat.zero_le _) (Nat.zero_le _) (hcd) (fun r G4' hr => ?_)
  obtain ⟨I6, A6, rfl, rfl, hss⟩ := hr
  change dm_ss I6 A6 (dk_dm (V.1 k1) (V.1 k2)) at hss
  simp only [Option.toList, List.cons_append, List.nil_append]
  have hu4 := dk_updm (I := I6) (A := A6) (J := J5) (X := X5) (P := P5) hd3
  have st1 : dk_st (dm_put G3 (z + 322) I6 A6 J5 X5 P5) z V k1 := dk_st_keep st1 (fun x h1 h2 => dm_out (by omega))
  have st2 : dk_st (dm_put G3 (z + 322) I6 A6 J5 X5 P5) z V k2 := dk_st_keep st2 (fun x h1 h2 => dm_out (by omega))
  have hdm4 : dm_is (dm_put G3 (z + 322) I6 A6 J5 X5 P5) (z + 322) I6 A6 J5 X5 P5 := fun o ho => dm_at ho
  have hfr4 := hfr3.trans hu4.1.2
  have hd4 := hu4.1.1
  clear hu4
  generalize dm_put G3 (z + 322) I6 A6 J5 X5 P5 = G4 at *
  have edm : (dm_res (V.1 k1) (V.1 k2) (mk_cl (V.1 k1)) (mk_cl (V.1 k2))).2 = (dk_dm (V.1 k1) (V.1 k2)).2 := rfl
  rw [edm]
  have h73 : ∀ (W0 : List Nat) (G5 : rz_G), dk_w0 (V.1 k1) (V.1 k2) W0 → W0.length ≤ 4096 → (∀ x ∈ W0, x < 3) → dk G5 z (dk_ur V W0) → dk_fr z G G5 → dk_st G5 z V k1 → dk_st G5 z V k2 → ru_T w (d + 8 + 1) 1 6 m_Desk_isSame 0 0 73 [some (.ref z), some (.int x), some (.int y), some (.ref (z + (1582 + 70 * k1))), some (.ref (z + (1582 + 70 * k2))), some (.int (rz_b (dk_dm (V.1 k1) (V.1 k2)).2.isSome)), none] [] G5 (ru_V V z G (fun r V' => ∃ k1 k2 W0, k1 < 6 ∧ k2 < 6 ∧ x = nI k1 ∧ y = nI k2 ∧ (df_S (V.1 k1) (V.1 k1)).2.2 = none ∧ (df_S (V.1 k2) (V.1 k2)).2.2 = none ∧ dk_w0 (V.1 k1) (V.1 k2) W0 ∧ W0.length ≤ 4096 ∧ (∀ x ∈ W0, x < 3) ∧ (∀ x ∈ dk_w1 (V.1 k1) (V.1 k2) W0, x < 3) ∧ r = some (.int (rz_b (!(dk_dm (V.1 k1) (V.1 k2)).2.isSome && !(df_S (V.1 k1) (V.1 k2)).2.2.isSome))) ∧ V' = dk_ur V (dk_w1 (V.1 k1) (V.1 k2) W0)) (fun c => (c = 0 ∧ (dk_no x ∨ dk_no y)) ∨ (c = 3 ∧ ∃ k1 k2, k1 < 6 ∧ k2 < 6 ∧ x = nI k1 ∧ y = nI k2 ∧ ¬ ((df_S (V.1 k1) (V.1 k1)).2.2 = none ∧ (df_S (V.1 k2) (V.1 k2)).2.2 = none)))) := by
    intro W0 G5 hW0 hWl hW3 hd5 hfr5 st1 st2
    refine ru_blk' [(.aload_n 0, 1, 0, 0), (.aload_n 3, 1, 0, 0), (.aload 4, 2, 0, 0)] (by decide +kernel) (Nat.zero_le _) (Nat.zero_le _) (fun K R hK hR => ?_)
    simp only [↓rx_aload, ↓rx_aload_n0, ↓rx_aload_n3, ↓rx_nil, ↓ry_lr0s, ↓ry_lr0z, rz_set, rz_nol, rz_clr, List.set_cons_zero, List.set_cons_succ, rz_tr, Nat.reduceAdd, Int.reduceAdd, Int.reduceToNat, Int.reduceSub, Int.reduceNeg, Int.cast_ofNat_Int]
    refine hK _ _ _ _ ?_
    refine ru_cV (As := [.ref (z + (1582 + 70 * k1)), .ref (z + (1582 + 70 * k2))]) (b := z) (S := []) l_Desk_164 (by decide +kernel) rfl (hd5 0 (by decide)).1 rfl (Nat.le_of_ble_eq_true rfl) (Nat.zero_le _) (Nat.zero_le _) (c_Desk_outputsDiffer (d := d + 3) (V := dk_ur V W0) hd5 st1 st2) (fun r G6 hr => ?_)
    obtain ⟨rfl, hd6, hs6, hp6, -⟩ := hr
    simp only [Option.toList, List.cons_append, List.nil_append]
    change dk_pf G6 z (df_S (V.1 k1) (V.1 k2)) at hp6
    have edf : (df_S ((dk_ur V W0).1 k1) ((dk_ur V W0).1 k2)) = df_S (V.1 k1) (V.1 k2) := rfl
    rw [edf]
    have hfr6 := hfr5.trans hd6.2
    have hd6 := hd6.1
    have hob6 := (hd6 0 (by decide)).1
    have hw6 : wd_is G6 (z + 2) 257 W0 := hd6 1 (by decide)
    have h128 : ∀ (W1 : List Nat) (G7 : rz_G) (L : rz_L), W1 = dk_w1 (V.1 k1) (V.1 k2) W0 → (∀ x ∈ W1, x < 3) → dk G7 z (dk_ur V W1) → dk_fr z G G7 → ru_T w (d + 8 + 1) 1 6 m_Desk_isSame 0 0 128 [some (.ref z), some (.int x), some (.int y), some (.ref (z + (1582 + 70 * k1))), some (.ref (z + (1582 + 70 * k2))), some (.int (rz_b (dk_dm (V.1 k1) (V.1 k2)).2.isSome)), some (.int (rz_b (df_S (V.1 k1) (V.1 k2)).2.2.isSome))] [] G7 (ru_V V z G (fun r V' => ∃ k1 k2 W0, k1 < 6 ∧ k2 < 6 ∧ x = nI k1 ∧ y = nI k2 ∧ (df_S (V.1 k1) (V.1 k1)).2.2 = none ∧ (df_S (V.1 k2) (V.1 k2)).2.2 = none ∧ dk_w0 (V.1 k1) (V.1 k2) W0 ∧ W0.length ≤ 4096 ∧ (∀ x ∈ W0, x < 3) ∧ (∀ x ∈ dk_w1 (V.1 k1) (V.1 k2) W0, x < 3) ∧ r = some (.int (rz_b (!(dk_dm (V.1 k1) (V.1 k2)).2.isSome && !(df_S (V.1 k1) (V.1 k2)).2.2.isSome))) ∧ V' = dk_ur V (dk_w1 (V.1 k1) (V.1 k2) W0)) (fun c => (c = 0 ∧ (dk_no x ∨ dk_no y)) ∨ (c = 3 ∧ ∃ k1 k2, k1 < 6 ∧ k2 < 6 ∧ x = nI k1 ∧ y = nI k2 ∧ ¬ ((df_S (V.1 k1) (V.1 k1)).2.2 = none ∧ (df_S (V.1 k2) (V.1 k2)).2.2 = none)))) := by
      intro W1 G7 L hW1 hW13 hd7 hfr7
      subst hW1
      have hend : ∀ b, (!(dk_dm (V.1 k1) (V.1 k2)).2.isSome && !(df_S (V.1 k1) (V.1 k2)).2.2.isSome) = b → ru_T w (d + 8 + 1) 1 6 m_Desk_isSame 0 0 143 [some (.ref z), some (.int x), some (.int y), some (.ref (z + (1582 + 70 * k1))), some (.ref (z + (1582 + 70 * k2))), some (.int (rz_b (dk_dm (V.1 k1) (V.1 k2)).2.isSome)), some (.int (rz_b (df_S (V.1 k1) (V.1 k2)).2.2.isSome))] [.int (rz_b b)] G7 (ru_V V z G (fun r V' => ∃ k1 k2 W0, k1 < 6 ∧ k2 < 6 ∧ x = nI k1 ∧ y = nI k2 ∧ (df_S (V.1 k1) (V.1 k1)).2.2 = none ∧ (df_S (V.1 k2) (V.1 k2)).2.2 = none ∧ dk_w0 (V.1 k1) (V.1 k2) W0 ∧ W0.length ≤ 4096 ∧ (∀ x ∈ W0, x < 3) ∧ (∀ x ∈ dk_w1 (V.1 k1) (V.1 k2) W0, x < 3) ∧ r = some (.int (rz_b (!(dk_dm (V.1 k1) (V.1 k2)).2.isSome && !(df_S (V.1 k1) (V.1 k2)).2.2.isSome))) ∧ V' = dk_ur V (dk_w1 (V.1 k1) (V.1 k2) W0)) (fun c => (c = 0 ∧ (dk_no x ∨ dk_no y)) ∨ (c = 3 ∧ ∃ k1 k2, k1 < 6 ∧ k2 < 6 ∧ x = nI k1 ∧ y = nI k2 ∧ ¬ ((df_S (V.1 k1) (V.1 k1)).2.2 = none ∧ (df_S (V.1 k2) (V.1 k2)).2.2 = none)))) := fun b hb => by
        refine ru_blk' [(.ireturn, 1, 0, 0)] (by decide +kernel) (Nat.zero_le _) (Nat.zero_le _) (fun K R hK hR => ?_)
        simp only [↓rx_ireturn, ↓rx_nil, rz_set, rz_nol, rz_clr, List.set_cons_zero, List.set_cons_succ, rz_tr, Nat.reduceAdd, Int.reduceAdd, Int.reduceToNat, Int.reduceSub, Int.reduceNeg, Int.cast_ofNat_Int]
        exact hR _ _ rz_b_nb ⟨⟨rfl, rfl⟩, rfl, _, ⟨k1, k2, W0, hk1, hk2, hx1, hx2, f1, f2, hW0, hWl, hW3, hW13, by rw [hb], rfl⟩, hd7, hfr7⟩
      have e0 : nI 0 = rz_b false := by decide
      have e1 : nI 1 = rz_b true := by decide
      generalize hbd : (dk_dm (V.1 k1) (V.1 k2)).2.isSome = bd at hend ⊢
      generalize hbo : (df_S (V.1 k1) (V.1 k2)).2.2.isSome = bo at hend ⊢
      cases bd
      rotate_left
      ·
        refine ru_blk' [(.iload 5, 2, 0, 0), (.ifCond .ne 12, 3, 0, 0)] (by decide +kernel) (Nat.zero_le _) (Nat.zero_le _) (fun K R hK hR => ?_)
        simp only [↓rx_ifCond_ne, ↓rx_iload, ↓rx_nil, ↓ry_i1, ↓ry_li0s, ↓ry_li0z, rz_set, rz_nol, rz_clr, List.set_cons_zero, List.set_cons_succ, rz_tr, Nat.reduceAdd, Int.reduceAdd, Int.reduceToNat, Int.reduceSub, Int.reduceNeg, Int.cast_ofNat_Int]
        refine ⟨fun _ => hK _ _ _ _ ?_, fun q => absurd q (by decide)⟩
        refine ru_blk' [(.iconst 0, 1, 0, 0)] (by decide +kernel) (Nat.zero_le _) (Nat.zero_le _) (fun K R hK hR => ?_)
        simp only [rw_c0, ↓rx_iconst, ↓rx_nil, rz_set, rz_nol, rz_clr, List.set_cons_zero, List.set_cons_succ, rz_tr, Nat.reduceAdd, Int.reduceAdd, Int.reduceToNat, Int.reduceSub, Int.reduceNeg, Int.cast_ofNat_Int]
        rw [e0]
        exact hK _ _ _ _ (hend false (by simp))
      refine ru_blk' [(.iload 5, 2, 0, 0), (.ifCond .ne 12, 3, 0, 0)] (by decide +kernel) (Nat.zero_le _) (Nat.zero_le _) (fun K R hK hR => ?_)
      simp only [↓rx_ifCond_ne, ↓rx_iload, ↓rx_nil, ↓ry_i1, ↓ry_li0s, ↓ry_li0z, rz_set, rz_nol, rz_clr, List.set_cons_zero, List.set_cons_succ, rz_tr, Nat.reduceAdd, Int.reduceAdd, Int.reduceToNat, Int.reduceSub, Int.reduceNeg, Int.cast_ofNat_Int]
      refine ⟨fun q => absurd rfl q, fun _ => hK _ _ _ _ ?_⟩
      cases bo
      rotate_left
      ·
        refine ru_blk' [(.iload 6, 2, 0, 0), (.ifCond .ne 7, 3, 0, 0)] (by decide +kernel) (Nat.zero_le _) (Nat.zero_le _) (fun K R hK hR => ?_)
        simp only [↓rx_ifCond_ne, ↓rx_iload, ↓rx_nil, ↓ry_i1, ↓ry_li0s, ↓ry_li0z, rz_set, rz_nol, rz_clr, List.set_cons_zero, List.set_cons_succ, rz_tr, Nat.reduceAdd, Int.reduceAdd, Int.reduceToNat, Int.reduceSub, Int.reduceNeg, Int.cast_ofNat_Int]
        refine ⟨fun _ => hK _ _ _ _ ?_, fun q => absurd q (by decide)⟩
        refine ru_blk' [(.iconst 0, 1, 0, 0)] (by decide +kernel) (Nat.zero_le _) (Nat.zero_le _) (fun K R hK hR => ?_)
        simp only [rw_c0, ↓rx_iconst, ↓rx_nil, rz_set, rz_nol, rz_clr, List.set_cons_zero, List.set_cons_succ, rz_tr, Nat.reduceAdd, Int.reduceAdd, Int.reduceToNat, Int.reduceSub, Int.reduceNeg, Int.cast_ofNat_Int]
        rw [e0]
        exact hK _ _ _ _ (hend false (by simp))
      refine ru_blk' [(.iload 6, 2, 0, 0), (.ifCond .ne 7, 3, 0, 0), (.iconst 1, 1, 0, 0), (.goto 4, 3, 0, 0)] (by decide +kernel) (Nat.zero_le _) (Nat.zero_le _) (fun K R hK hR => ?_)
      simp only [rw_c1, ↓rx_goto, ↓rx_iconst, ↓rx_ifCond_ne, ↓rx_iload, ↓rx_nil, ↓ry_i1, ↓ry_li0s, ↓ry_li0z, rz_set, rz_nol, rz_clr, List.set_cons_zero, List.set_cons_succ, rz_tr, Nat.reduceAdd, Int.reduceAdd, Int.reduceToNat, Int.reduceSub, Int.reduceNeg, Int.cast_ofNat_Int]
      rw [e1]
      exact ⟨fun q => absurd rfl q, fun _ => hK _ _ _ _ (hend true (by simp))⟩
    refine ru_blk' [(.istore 6, 2, 0, 0)] (by decide +kernel) (Nat.zero_le _) (Nat.zero_le _) (fun K R hK hR => ?_)
    simp only [↓rx_istore, ↓rx_nil, ↓ry_i1, rz_set, rz_nol, rz_clr, List.set_cons_zero, List.set_cons_succ, rz_tr, Nat.reduceAdd, Int.reduceAdd, Int.reduceToNat, Int.reduceSub, Int.reduceNeg, Int.cast_ofNat_Int]
    refine hK _ _ _ _ ?_
    cases hfo : (df_S (V.1 k1) (V.1 k2)).2.2 with
    | none =>
      refine ru_blk' [(.iload 6, 2, 0, 0), (.ifCond .eq 44, 3, 0, 0)] (by decide +kernel) (Nat.zero_le _) (Nat.zero_le _) (fun K R hK hR => ?_)
      simp only [↓rx_ifCond_eq, ↓rx_iload, ↓rx_nil, ↓ry_i1, ↓ry_li0s, ↓ry_li0z, rz_set, rz_nol, rz_clr, List.set_cons_zero, List.set_cons_succ, rz_tr, Nat.reduceAdd, Int.reduceAdd, Int.reduceToNat, Int.reduceSub, Int.reduceNeg, Int.cast_ofNat_Int]
      rw [hfo] at h128
      refine ⟨fun _ => hK _ _ _ _ (h128 W0 G6 [] (by simp only [dk_w1, hfo]) hW3 hd6 hfr6), fun q => absurd rfl q⟩
    | some g =>
      refine ru_blk' [(.iload 6, 2, 0, 0), (.ifCond .eq 44, 3, 0, 0)] (by decide +kernel) (Nat.zero_le _) (Nat.zero_le _) (fun K R hK hR => ?_)
      simp only [↓rx_ifCond_eq, ↓rx_iload, ↓rx_nil, ↓ry_i1, ↓ry_li0s, ↓ry_li0z, rz_set, rz_nol, rz_clr, List.set_cons_zero, List.set_cons_succ, rz_tr, Nat.reduceAdd, Int.reduceAdd, Int.reduceToNat, Int.reduceSub, Int.reduceNeg, Int.cast_ofNat_Int]
      refine ⟨fun q => absurd q (show ¬ rz_b true = 0 by decide), fun _ => hK _ _ _ _ ?_⟩
      obtain ⟨I7, A7, J7, X7, P7, A57, q1, q2, q3⟩ := hp6
      obtain ⟨xs4, hsw⟩ := hd6 2 (by decide)
      refine ru_blk' [(.aload_n 0, 1, 0, 0), (.getfield 37, 3, 9, 4), (.aload_n 0, 1, 0, 0), (.getfield 24, 3, 9, 2)] (by decide +kernel) (Nat.zero_le _) (Nat.zero_le _) (fun K R hK hR => ?_)
      simp only [↓rx_aload_n0, ↓rx_getfield, ↓rx_nil, ↓ry_fvs, ↓ry_fvz, ↓ry_lr0s, ↓ry_lr0z, ↓ry_obu, ↓ry_r1, ↓rh_ob hob6, dk_fs, rz_set, rz_nol, rz_clr, List.set_cons_zero, List.set_cons_succ, rz_tr, Nat.reduceAdd, Int.reduceAdd, Int.reduceToNat, Int.reduceSub, Int.reduceNeg, Int.cast_ofNat_Int]
      refine hK _ _ _ _ ?_
      have hct := c_Pair_tellWord (w := w) (d := d + 6) (G := G6) (a := z + 18) (J := J7) (P := P7) (g := g) (wo := z + 4) (co := 5) q2 q3 hfo hsw (by decide) (Or.inl (by omega))
      rw [ps_id q1] at hct
      refine ru_cV (As := [.ref (z + 4)]) (b := z + 18) (S := []) l_Desk_152 (by decide +kernel) rfl (q1 0 (by decide)) rfl (Nat.le_of_ble_eq_true rfl) (Nat.zero_le _) (Nat.zero_le _) (hct) (fun r G7 hr => ?_)
      obtain ⟨rfl, rfl, hwl, hw3'⟩ := hr
      simp only [Option.toList, List.nil_append]
      have hwo : wd_ok 5 (ps_wf g (df_S (V.1 k1) (V.1 k2))) := ⟨by omega, fun x hx => by have := hw3' x hx; omega, by decide⟩
      have e7 : ps_put (wd_put G6 (z + 4) 5 (ps_wf g (df_S (V.1 k1) (V.1 k2)))) (z + 18) I7 A7 J7 X7 P7 = wd_put G6 (z + 4) 5 (ps_wf g (df_S (V.1 k1) (V.1 k2))) := ps_id (fun o ho => by rw [wd_pout (by omega) (by omega)]; exact q1 o ho)
      rw [e7]
      have hd7 := dk_upsw (xs := ps_wf g (df_S (V.1 k1) (V.1 k2))) hd6 hwo
      have hs7 : wd_is (wd_put G6 (z + 4) 5 (ps_wf g (df_S (V.1 k1) (V.1 k2)))) (z + 4) 5 (ps_wf g (df_S (V.1 k1) (V.1 k2))) := wd_pis hwo
      have hfr7 := hfr6.trans hd7.2
      have hd7 := hd7.1
      generalize hsw1 : ps_wf g (df_S (V.1 k1) (V.1 k2)) = sw at *
      generalize wd_put G6 (z + 4) 5 sw = G7 at *
      have hob7 := (hd7 0 (by decide)).1
      have hw7 : wd_is G7 (z + 2) 257 W0 := hd7 1 (by decide)
      rw [hfo] at h128
      have hcopy : dk_w1 (V.1 k1) (V.1 k2) W0 = sw → ru_T w (d + 8 + 1) 1 6 m_Desk_isSame 0 0 117 [some (.ref z), some (.int x), some (.int y), some (.ref (z + (1582 + 70 * k1))), some (.ref (z + (1582 + 70 * k2))), some (.int (rz_b (dk_dm (V.1 k1) (V.1 k2)).2.isSome)), some (.int (rz_b (some g).isSome))] [] G7 (ru_V V z G (fun r V' => ∃ k1 k2 W0, k1 < 6 ∧ k2 < 6 ∧ x = nI k1 ∧ y = nI k2 ∧ (df_S (V.1 k1) (V.1 k1)).2.2 = none ∧ (df_S (V.1 k2) (V.1 k2)).2.2 = none ∧ dk_w0 (V.1 k1) (V.1 k2) W0 ∧ W0.length ≤ 4096 ∧ (∀ x ∈ W0, x < 3) ∧ (∀ x ∈ dk_w1 (V.1 k1) (V.1 k2) W0, x < 3) ∧ r = some (.int (rz_b (!(dk_dm (V.1 k1) (V.1 k2)).2.isSome && !(df_S (V.1 k1) (V.1 k2)).2.2.isSome))) ∧ V' = dk_ur V (dk_w1 (V.1 k1) (V.1 k2) W0)) (fun c => (c = 0 ∧ (dk_no x ∨ dk_no y)) ∨ (c = 3 ∧ ∃ k1 k2, k1 < 6 ∧ k2 < 6 ∧ x = nI k1 ∧ y = nI k2 ∧ ¬ ((df_S (V.1 k1) (V.1 k1)).2.2 = none ∧ (df_S (V.1 k2) (V.1 k2)).2.2 = none)))) := fun hq => by
        refine ru_blk' [(.aload_n 0, 1, 0, 0), (.getfield 20, 3, 9, 1), (.aload_n 0, 1, 0, 0), (.getfield 24, 3, 9, 2)] (by decide +kernel) (Nat.zero_le _) (Nat.zero_le _) (fun K R hK hR => ?_)
        simp only [↓rx_aload_n0, ↓rx_getfield, ↓rx_nil, ↓ry_fvs, ↓ry_fvz, ↓ry_lr0s, ↓ry_lr0z, ↓ry_obu, ↓ry_r1, ↓rh_ob hob7, dk_fs, rz_set, rz_nol, rz_clr, List.set_cons_zero, List.set_cons_succ, rz_tr, Nat.reduceAdd, Int.reduceAdd, Int.reduceToNat, Int.reduceSub, Int.reduceNeg, Int.cast_ofNat_Int]
        refine hK _ _ _ _ ?_
        refine ru_cV (As := [.ref (z + 4)]) (b := z + 2) (S := []) l_Desk_171 (by decide +kernel) rfl hw7.1 rfl (Nat.le_of_ble_eq_true rfl) (Nat.zero_le _) (Nat.zero_le _) (c_Word_copy hw7 hs7 (by omega)) (fun r G8 hr => ?_)
        obtain ⟨rfl, rfl⟩ := hr
        rw [if_pos (by omega)]
        simp only [Option.toList, List.nil_append]
        have hwo2 : wd_ok 257 sw := ⟨by omega, hwo.2.1, by decide⟩
        have hd8 := dk_put (xs := sw) hd7 hwo2
        exact h128 sw _ [] hq.symm hw3' hd8.1 (hfr7.trans hd8.2)
      cases hbd : (dk_dm (V.1 k1) (V.1 k2)).2 with
      | none =>
        refine ru_blk' [(.iload 5, 2, 0, 0), (.ifCond .eq 17, 3, 0, 0)] (by decide +kernel) (Nat.zero_le _) (Nat.zero_le _) (fun K R hK hR => ?_)
        simp only [↓rx_ifCond_eq, ↓rx_iload, ↓rx_nil, ↓ry_i1, ↓ry_li0s, ↓ry_li0z, rz_set, rz_nol, rz_clr, List.set_cons_zero, List.set_cons_succ, rz_tr, Nat.reduceAdd, Int.reduceAdd, Int.reduceToNat, Int.reduceSub, Int.reduceNeg, Int.cast_ofNat_Int]
        rw [hbd] at hcopy
        refine ⟨fun _ => hK _ _ _ _ (hcopy ?_), fun q => absurd rfl q⟩
        simp only [dk_w1, hfo, hbd, true_or, if_true, hsw1]
      | some gd =>
        refine ru_blk' [(.iload 5, 2, 0, 0), (.ifCond .eq 17, 3, 0, 0), (.aload_n 0, 1, 0, 0), (.getfield 24, 3, 9, 2), (.aload_n 0, 1, 0, 0), (.getfield 20, 3, 9, 1)] (by decide +kernel) (Nat.zero_le _) (Nat.zero_le _) (fun K R hK hR => ?_)
        simp only [↓rx_aload_n0, ↓rx_getfield, ↓rx_ifCond_eq, ↓rx_iload, ↓rx_nil, ↓ry_fvs, ↓ry_fvz, ↓ry_i1, ↓ry_li0s, ↓ry_li0z, ↓ry_lr0s, ↓ry_lr0z, ↓ry_obu, ↓ry_r1, ↓rh_ob hob7, dk_fs, rz_set, rz_nol, rz_clr, List.set_cons_zero, List.set_cons_succ, rz_tr, Nat.reduceAdd, Int.reduceAdd, Int.reduceToNat, Int.reduceSub, Int.reduceNeg, Int.cast_ofNat_Int]
        refine ⟨fun q => absurd q (show ¬ rz_b true = 0 by decide), fun _ => hK _ _ _ _ ?_⟩
        refine ru_cV (As := [.ref (z + 2)]) (b := z + 4) (S := []) l_Desk_167 (by decide +kernel) rfl hs7.1 rfl (Nat.le_of_ble_eq_true rfl) (Nat.zero_le _) (Nat.zero_le _) (c_Word_isBefore (d := d + 7) hs7 hw7 (fun x hx => by have := hw3' x hx; omega) (fun x hx => by have := hW3 x hx; omega)) (fun r G8 hr => ?_)
        obtain ⟨rfl, hg⟩ := hr
        have hg := hg.symm
        subst hg
        simp only [Option.toList, List.cons_append, List.nil_append]
        rw [hbd] at hcopy h128
        by_cases cb : wd_bef sw W0 = true
        · rw [if_pos cb]
          refine ru_blk' [(.ifCond .eq 14, 3, 0, 0)] (by decide +kernel) (Nat.zero_le _) (Nat.zero_le _) (fun K R hK hR => ?_)
          simp only [↓rx_ifCond_eq, ↓rx_nil, ↓ry_i1, rz_set, rz_nol, rz_clr, List.set_cons_zero, List.set_cons_succ, rz_tr, Nat.reduceAdd, Int.reduceAdd, Int.reduceToNat, Int.reduceSub, Int.reduceNeg, Int.cast_ofNat_Int]
          refine ⟨fun q => absurd q (by decide), fun _ => hK _ _ _ _ (hcopy ?_)⟩
          simp only [dk_w1, hfo, hsw1]
          rw [if_pos (Or.inr cb)]
        · rw [if_neg cb]
          refine ru_blk' [(.ifCond .eq 14, 3, 0, 0)] (by decide +kernel) (Nat.zero_le _) (Nat.zero_le _) (fun K R hK hR => ?_)
          simp only [↓rx_ifCond_eq, ↓rx_nil, ↓ry_i1, rz_set, rz_nol, rz_clr, List.set_cons_zero, List.set_cons_succ, rz_tr, Nat.reduceAdd, Int.reduceAdd, Int.reduceToNat, Int.reduceSub, Int.reduceNeg, Int.cast_ofNat_Int]
          refine ⟨fun _ => hK _ _ _ _ (h128 W0 G7 [] ?_ hW3 hd7 hfr7), fun q => absurd trivial q⟩
          simp only [dk_w1, hfo, hsw1]
          rw [if_neg (fun q => q.elim (fun q => by rw [hbd] at q; cases q) cb)]
  refine ru_blk' [(.istore 5, 2, 0, 0)] (by decide +kernel) (Nat.zero_le _) (Nat.zero_le _) (fun K R hK hR => ?_)
  simp only [↓rx_istore, ↓rx_nil, ↓ry_i1, rz_set, rz_nol, rz_clr, List.set_cons_zero, List.set_cons_succ, rz_tr, Nat.reduceAdd, Int.reduceAdd, Int.reduceToNat, Int.reduceSub, Int.reduceNeg, Int.cast_ofNat_Int]
  refine hK _ _ _ _ ?_
  cases hbd : (dk_dm (V.1 k1) (V.1 k2)).2 with
  | none =>
    refine ru_blk' [(.iload 5, 2, 0, 0), (.ifCond .eq 14, 3, 0, 0)] (by decide +kernel) (Nat.zero_le _) (Nat.zero_le _) (fun K R hK hR => ?_)
    simp only [↓rx_ifCond_eq, ↓rx_iload, ↓rx_nil, ↓ry_i1, ↓ry_li0s, ↓ry_li0z, rz_set, rz_nol, rz_clr, List.set_cons_zero, List.set_cons_succ, rz_tr, Nat.reduceAdd, Int.reduceAdd, Int.reduceToNat, Int.reduceSub, Int.reduceNeg, Int.cast_ofNat_Int]
    rw [hbd] at h73
    exact ⟨fun _ => hK _ _ _ _ (h73 [] G4 (by simp only [dk_w0, hbd]) (by simp) (fun x hx => by cases hx) hd4 hfr4 st1 st2), fun q => absurd rfl q⟩
  | some gd =>
    refine ru_blk' [(.iload 5, 2, 0, 0), (.ifCond .eq 14, 3, 0, 0)] (by decide +kernel) (Nat.zero_le _) (Nat.zero_le _) (fun K R hK hR => ?_)
    simp only [↓rx_ifCond_eq, ↓rx_iload, ↓rx_nil, ↓ry_i1, ↓ry_li0s, ↓ry_li0z, rz_set, rz_nol, rz_clr, List.set_cons_zero, List.set_cons_succ, rz_tr, Nat.reduceAdd, Int.reduceAdd, Int.reduceToNat, Int.reduceSub, Int.reduceNeg, Int.cast_ofNat_Int]
    refine ⟨fun q => absurd q (show ¬ rz_b true = 0 by decide), fun _ => hK _ _ _ _ ?_⟩
    have hob4 := (hd4 0 (by decide)).1
    have hw4 : wd_is G4 (z + 2) 257 [] := hd4 1 (by decide)
    refine ru_blk' [(.aload_n 0, 1, 0, 0), (.getfield 44, 3, 9, 5), (.aload_n 0, 1, 0, 0), (.getfield 20, 3, 9, 1)] (by decide +kernel) (Nat.zero_le _) (Nat.zero_le _) (fun K R hK hR => ?_)
    simp only [↓rx_aload_n0, ↓rx_getfield, ↓rx_nil, ↓ry_fvs, ↓ry_fvz, ↓ry_lr0s, ↓ry_lr0z, ↓ry_obu, ↓ry_r1, ↓rh_ob hob4, dk_fs, rz_set, rz_nol, rz_clr, List.set_cons_zero, List.set_cons_succ, rz_tr, Nat.reduceAdd, Int.reduceAdd, Int.reduceToNat, Int.reduceSub, Int.reduceNeg, Int.cast_ofNat_Int]
    refine hK _ _ _ _ ?_
    have hct := c_Dom_tellWord (w := w) (d := d + 6) (G := G4) (a := z + 322) (J := J5) (X := X5) (P := P5) (g := gd) (wo := z + 2) (co := 257) hss hbd hw4 (by decide) (Or.inl (by omega))
    rw [dm_id hdm4] at hct
    refine ru_cV (As := [.ref (z + 2)]) (b := z + 322) (S := []) l_Desk_163 (by decide +kernel) rfl (hdm4 0 (by decide)) rfl (Nat.le_of_ble_eq_true rfl) (Nat.zero_le _) (Nat.zero_le _) (hct) (fun r G5 hr => ?_)
    obtain ⟨rfl, W0, hW, hWl, hW3, rfl⟩ := hr
    simp only [Option.toList, List.nil_append]
    have hwo : wd_ok 257 W0 := ⟨by omega, fun x hx => by have := hW3 x hx; omega, by decide⟩
    have hd5 := dk_put (xs := W0) hd4 hwo
    have e5 : dm_put (wd_put G4 (z + 2) 257 W0) (z + 322) I6 A6 J5 X5 P5 = wd_put G4 (z + 2) 257 W0 := dm_id (fun o ho => by rw [wd_pout (by omega) (by omega)]; exact hdm4 o ho)
    rw [e5]
    rw [hbd] at h73
    exact h73 W0 _ (by simp only [dk_w0, hbd]; exact hW) hWl hW3 hd5.1 (hfr4.trans hd5.2) (dk_st_keep st1 (fun x h1 h2 => wd_pout (by omega) (by omega))) (dk_st_keep st2 (fun x h1 h2 => wd_pout (by omega) (by omega)))
