/-! WriterDesk: isFunction, isSteady, read, sign -/
def dk_ur (V : dk_V) (xs : List Nat) : dk_V := (V.1, xs, V.2.2)
theorem dk_upw {V : dk_V} {G G' : rz_G} {z : Nat} {xs : List Nat} (h : dk G z V) (ho : ∀ x, x < z + 2 ∨ z + 4 ≤ x → G' x = G x) (hw : wd_is G' (z + 2) 257 xs) : dk G' z (dk_ur V xs) ∧ dk_fr z G G' :=
  dk_mod h 1 (by decide) (fun x hx => ho x hx) hw (fun j hj hn hc => by
    match j, hj, hn, hc with
    | 0, _, _, hc => exact hc
    | 1, _, hn, _ => exact absurd rfl hn
    | 2, _, _, hc => exact hc
    | 3, _, _, hc => exact hc
    | 4, _, _, hc => exact hc
    | 5, _, _, hc => exact hc
    | 6, _, _, hc => exact hc
    | 7, _, _, hc => exact hc
    | 8, _, _, hc => exact hc
    | 9, _, _, hc => exact hc
    | j + 10, _, _, hc => exact hc)
theorem wd_pis {G : rz_G} {a c : Nat} {xs : List Nat} (h : wd_ok c xs) : wd_is (wd_put G a c xs) a c xs := by
  refine ⟨?_, ?_, h⟩
  · simp only [wd_put]; rw [rz_up_n _ _ (by omega), rz_up_s]
  · simp only [wd_put]; rw [rz_up_s]
theorem wd_pout {G : rz_G} {a c x : Nat} {xs : List Nat} (h : x ≠ a) (h2 : x ≠ a + 1) : wd_put G a c xs x = G x := by
  simp only [wd_put]; rw [rz_up_n _ _ (by omega), rz_up_n _ _ (by omega)]
theorem dk_put {V : dk_V} {G : rz_G} {z : Nat} {xs : List Nat} (h : dk G z V) (hx : wd_ok 257 xs) : dk (wd_put G (z + 2) 257 xs) z (dk_ur V xs) ∧ dk_fr z G (wd_put G (z + 2) 257 xs) := dk_upw h (fun x hx => wd_pout (by omega) (by omega)) (wd_pis hx)
theorem dk_uprs {V : dk_V} {G : rz_G} {z bd : Nat} {I : Nat → Int32} {A : Nat → Nat → Int32} {J : Nat → Nat → Int64} {X : Nat → List Nat} {P : Nat → Nat} {S : rs_sT} (h : dk G z V) (hS : rs_st I A J bd S) (hX : rs_xo X) : (dk (rs_put G (z + 327) I A J X P) z V ∧ dk_fr z G (rs_put G (z + 327) I A J X P)) ∧ ∀ j, dk_st G z V j → dk_st (rs_put G (z + 327) I A J X P) z V j :=
  ⟨dk_mod' h 6 (by decide) (fun x hx => rs_out hx) ⟨I, A, J, X, _, bd, S, rs_is0_of (fun o ho => rs_at ho), hS, hX⟩, fun j hj => dk_st_keep hj (fun x h1 h2 => rs_out (by omega))⟩

/-- the word that isFunction tells -/
def dk_fw (m : mv_T) : List Nat := match (df_S m m).2.2 with
  | none => []
  | some g => ps_wf g (df_S m m)
set_option maxRecDepth 100000 in
set_option maxHeartbeats 4000000 in
theorem c_Desk_isFunction {w : rz_w} {d : Nat} {G : rz_G} {z : Nat} {V : dk_V} (h : dk G z V) (x : Int32)  : ru_C w (d + 9) 1 6 y_Desk_isFunction m_Desk_isFunction [.ref z, .int x] G (ru_V V z G (fun r V' => ∃ k, k < 6 ∧ x = nI k ∧ r = some (.int (rz_b (!(df_S (V.1 k) (V.1 k)).2.2.isSome))) ∧ V' = dk_ur V (dk_fw (V.1 k))) (fun c => (c = 0 ∧ dk_no x))) := by
  obtain ⟨hob, hma⟩ := h 0 (by decide)
  refine ru_enter [some (.ref z), some (.int x), none] rfl (by decide +kernel) rfl rfl (Nat.le_of_ble_eq_true rfl) rfl ?_
  refine ru_blk' [(.aload_n 0, 1, 0, 0), (.aload_n 0, 1, 0, 0), (.iload_n 1, 1, 0, 0)] (by decide +kernel) (Nat.zero_le _) (Nat.zero_le _) (fun K R hK hR => ?_)
  simp only [↓rx_aload_n0, ↓rx_iload_n1, ↓rx_nil, ↓ry_li0s, ↓ry_li0z, ↓ry_lr0s, ↓ry_lr0z, rz_set, rz_nol, rz_clr, List.set_cons_zero, List.set_cons_succ, rz_tr, Nat.reduceAdd, Int.reduceAdd, Int.reduceToNat, Int.reduceSub, Int.reduceNeg, Int.cast_ofNat_Int]
  refine hK _ _ _ _ ?_
  refine ru_cV2 (As := [.int x]) (b := z) (S := [.ref z]) l_Desk_73 (by decide +kernel) rfl hob rfl (Nat.le_of_ble_eq_true rfl) rfl rfl (Nat.le_refl _) (Nat.le_refl _) (c_Desk_machineOf h x) (fun c G' hc => by obtain ⟨⟨rfl, rfl⟩, hn⟩ := hc; exact ⟨⟨rfl, hn⟩, h, dk_fr.rf⟩) (fun r G' hr => ?_)
  obtain ⟨hg, k, hk, hkx, rfl⟩ := hr
  have hg := hg.symm
  subst hg
  simp only [Option.toList, List.cons_append, List.nil_append]
  refine ru_cV (As := [.ref (z + (1582 + 70 * k))]) (b := z) (S := []) l_Desk_145 (by decide +kernel) rfl hob rfl (Nat.le_of_ble_eq_true rfl) (Nat.zero_le _) (Nat.zero_le _) (c_Desk_hasOneOutputEach (d := d + 2) h hk) (fun r G' hr => ?_)
  obtain ⟨rfl, hd1, hs1, hp1⟩ := hr
  simp only [Option.toList, List.cons_append, List.nil_append]
  have hob1 := (hd1.1 0 (by decide)).1
  have hw1 : wd_is G' (z + 2) 257 V.2.1 := hd1.1 1 (by decide)
  refine ru_blk' [(.istore_n 2, 1, 0, 0)] (by decide +kernel) (Nat.zero_le _) (Nat.zero_le _) (fun K R hK hR => ?_)
  simp only [↓rx_istore_n2, ↓rx_nil, ↓ry_i1, rz_set, rz_nol, rz_clr, List.set_cons_zero, List.set_cons_succ, rz_tr, Nat.reduceAdd, Int.reduceAdd, Int.reduceToNat, Int.reduceSub, Int.reduceNeg, Int.cast_ofNat_Int]
  refine hK _ _ _ _ ?_
  refine ru_blk' [(.aload_n 0, 1, 0, 0), (.getfield 20, 3, 9, 1)] (by decide +kernel) (Nat.zero_le _) (Nat.zero_le _) (fun K R hK hR => ?_)
  simp only [↓rx_aload_n0, ↓rx_getfield, ↓rx_nil, ↓ry_fvs, ↓ry_fvz, ↓ry_lr0s, ↓ry_lr0z, ↓ry_obu, ↓ry_r1, ↓rh_ob hob1, dk_fs, rz_set, rz_nol, rz_clr, List.set_cons_zero, List.set_cons_succ, rz_tr, Nat.reduceAdd, Int.reduceAdd, Int.reduceToNat, Int.reduceSub, Int.reduceNeg, Int.cast_ofNat_Int]
  refine hK _ _ _ _ ?_
  refine ru_cV (As := []) (b := z + 2) (S := []) l_Desk_149 (by decide +kernel) rfl hw1.1 rfl (Nat.le_of_ble_eq_true rfl) (Nat.zero_le _) (Nat.zero_le _) (c_Word_clear hw1) (fun r G' hr => ?_)
  obtain ⟨rfl, rfl⟩ := hr
  simp only [Option.toList, List.nil_append]
  have hd2 := dk_put (xs := []) hd1.1 (wd_ok_nil (by decide))
  have hp2 : dk_pf (wd_put G' (z + 2) 257 []) z (df_S (V.1 k) (V.1 k)) := dk_pf_keep hp1 (fun x h1 h2 => wd_pout (by omega) (by omega))
  generalize wd_put G' (z + 2) 257 [] = G2 at *
  have hob2 := (hd2.1 0 (by decide)).1
  have hw2 : wd_is G2 (z + 2) 257 [] := hd2.1 1 (by decide)
  cases hf : (df_S (V.1 k) (V.1 k)).2.2 with
  | none =>
    refine ru_blk' [(.iload_n 2, 1, 0, 0), (.ifCond .ne 14, 3, 0, 0)] (by decide +kernel) (Nat.zero_le _) (Nat.zero_le _) (fun K R hK hR => ?_)
    simp only [↓rx_ifCond_ne, ↓rx_iload_n2, ↓rx_nil, ↓ry_i1, ↓ry_li0s, ↓ry_li0z, rz_set, rz_nol, rz_clr, List.set_cons_zero, List.set_cons_succ, rz_tr, Nat.reduceAdd, Int.reduceAdd, Int.reduceToNat, Int.reduceSub, Int.reduceNeg, Int.cast_ofNat_Int]
    refine ⟨fun _ => hK _ _ _ _ ?_, fun q => absurd q (by decide)⟩
    refine ru_blk' [(.iload_n 2, 1, 0, 0), (.ireturn, 1, 0, 0)] (by decide +kernel) (Nat.zero_le _) (Nat.zero_le _) (fun K R hK hR => ?_)
    simp only [↓rx_iload_n2, ↓rx_ireturn, ↓rx_nil, ↓ry_li0s, ↓ry_li0z, rz_set, rz_nol, rz_clr, List.set_cons_zero, List.set_cons_succ, rz_tr, Nat.reduceAdd, Int.reduceAdd, Int.reduceToNat, Int.reduceSub, Int.reduceNeg, Int.cast_ofNat_Int]
    refine hR _ _ rz_b_nb ⟨⟨rfl, rfl⟩, rfl, _, ⟨k, hk, hkx, by rw [hf], rfl⟩, ?_, hd1.2.trans hd2.2⟩
    simp only [dk_fw, hf]
    exact hd2.1
  | some g =>
    refine ru_blk' [(.iload_n 2, 1, 0, 0), (.ifCond .ne 14, 3, 0, 0)] (by decide +kernel) (Nat.zero_le _) (Nat.zero_le _) (fun K R hK hR => ?_)
    simp only [↓rx_ifCond_ne, ↓rx_iload_n2, ↓rx_nil, ↓ry_i1, ↓ry_li0s, ↓ry_li0z, rz_set, rz_nol, rz_clr, List.set_cons_zero, List.set_cons_succ, rz_tr, Nat.reduceAdd, Int.reduceAdd, Int.reduceToNat, Int.reduceSub, Int.reduceNeg, Int.cast_ofNat_Int]
    refine ⟨fun q => absurd rfl q, fun _ => hK _ _ _ _ ?_⟩
    obtain ⟨I, A, J, X, P, A5, q1, q2, q3⟩ := hp2
    refine ru_blk' [(.aload_n 0, 1, 0, 0), (.getfield 37, 3, 9, 4), (.aload_n 0, 1, 0, 0), (.getfield 20, 3, 9, 1)] (by decide +kernel) (Nat.zero_le _) (Nat.zero_le _) (fun K R hK hR => ?_)
    simp only [↓rx_aload_n0, ↓rx_getfield, ↓rx_nil, ↓ry_fvs, ↓ry_fvz, ↓ry_lr0s, ↓ry_lr0z, ↓ry_obu, ↓ry_r1, ↓rh_ob hob2, dk_fs, rz_set, rz_nol, rz_clr, List.set_cons_zero, List.set_cons_succ, rz_tr, Nat.reduceAdd, Int.reduceAdd, Int.reduceToNat, Int.reduceSub, Int.reduceNeg, Int.cast_ofNat_Int]
    refine hK _ _ _ _ ?_
    have hct := c_Pair_tellWord (w := w) (d := d + 6) (G := G2) (a := z + 18) (J := J) (P := P) (g := g) (wo := z + 2) (co := 257) q2 q3 hf hw2 (by decide) (Or.inl (by omega))
    rw [ps_id q1] at hct
    refine ru_cV (As := [.ref (z + 2)]) (b := z + 18) (S := []) l_Desk_152 (by decide +kernel) rfl (q1 0 (by decide)) rfl (Nat.le_of_ble_eq_true rfl) (Nat.zero_le _) (Nat.zero_le _) (hct) (fun r G' hr => ?_)
    obtain ⟨rfl, rfl, hwl, hw3⟩ := hr
    simp only [Option.toList, List.nil_append]
    refine ru_blk' [(.iload_n 2, 1, 0, 0), (.ireturn, 1, 0, 0)] (by decide +kernel) (Nat.zero_le _) (Nat.zero_le _) (fun K R hK hR => ?_)
    simp only [↓rx_iload_n2, ↓rx_ireturn, ↓rx_nil, ↓ry_li0s, ↓ry_li0z, rz_set, rz_nol, rz_clr, List.set_cons_zero, List.set_cons_succ, rz_tr, Nat.reduceAdd, Int.reduceAdd, Int.reduceToNat, Int.reduceSub, Int.reduceNeg, Int.cast_ofNat_Int]
    have hwo : wd_ok 257 (ps_wf g (df_S (V.1 k) (V.1 k))) := ⟨by omega, fun x hx => by have := hw3 x hx; omega, by decide⟩
    have hd3 := dk_put (xs := ps_wf g (df_S (V.1 k) (V.1 k))) hd2.1 hwo
    have e1 : ps_put (wd_put G2 (z + 2) 257 (ps_wf g (df_S (V.1 k) (V.1 k)))) (z + 18) I A J X P = wd_put G2 (z + 2) 257 (ps_wf g (df_S (V.1 k) (V.1 k))) := ps_id (fun o ho => by rw [wd_pout (by omega) (by omega)]; exact q1 o ho)
    rw [e1]
    refine hR _ _ rz_b_nb ⟨⟨rfl, rfl⟩, rfl, _, ⟨k, hk, hkx, by rw [hf], rfl⟩, ?_, (hd1.2.trans hd2.2).trans hd3.2⟩
    simp only [dk_fw, hf]
    exact hd3.1
set_option maxRecDepth 100000 in
set_option maxHeartbeats 4000000 in
theorem c_Desk_isSteady {w : rz_w} {d : Nat} {G : rz_G} {z : Nat} {V : dk_V} (h : dk G z V) (x : Int32) (hv : ∀ k, k < 6 → rs_ver (V.1 k) (mk_cl (V.1 k)) ≤ 2) : ru_C w (d + 9) 1 6 y_Desk_isSteady m_Desk_isSteady [.ref z, .int x] G (ru_V V z G (fun r V' => V' = V ∧ ∃ k, k < 6 ∧ x = nI k ∧ (df_S (V.1 k) (V.1 k)).2.2 = none ∧ rs_ver (V.1 k) (mk_cl (V.1 k)) ≠ 2 ∧ r = some (.int (rz_b (decide (rs_ver (V.1 k) (mk_cl (V.1 k)) = 0))))) (fun c => (c = 0 ∧ dk_no x) ∨ ∃ k, k < 6 ∧ x = nI k ∧ ((c = 3 ∧ (df_S (V.1 k) (V.1 k)).2.2 ≠ none) ∨ (c = 2 ∧ (df_S (V.1 k) (V.1 k)).2.2 = none ∧ rs_ver (V.1 k) (mk_cl (V.1 k)) = 2)))) := by
  obtain ⟨hob, hma⟩ := h 0 (by decide)
  refine ru_enter [some (.ref z), some (.int x), none, none] rfl (by decide +kernel) rfl rfl (Nat.le_of_ble_eq_true rfl) rfl ?_
  refine ru_blk' [(.aload_n 0, 1, 0, 0), (.iload_n 1, 1, 0, 0)] (by decide +kernel) (Nat.zero_le _) (Nat.zero_le _) (fun K R hK hR => ?_)
  simp only [↓rx_aload_n0, ↓rx_iload_n1, ↓rx_nil, ↓ry_li0s, ↓ry_li0z, ↓ry_lr0s, ↓ry_lr0z, rz_set, rz_nol, rz_clr, List.set_cons_zero, List.set_cons_succ, rz_tr, Nat.reduceAdd, Int.reduceAdd, Int.reduceToNat, Int.reduceSub, Int.reduceNeg, Int.cast_ofNat_Int]
  refine hK _ _ _ _ ?_
  refine ru_cV2 (As := [.int x]) (b := z) (S := []) l_Desk_73 (by decide +kernel) rfl hob rfl (Nat.le_of_ble_eq_true rfl) rfl rfl (Nat.le_refl _) (Nat.le_refl _) (c_Desk_machineOf h x) (fun c G' hc => by obtain ⟨⟨rfl, rfl⟩, hn⟩ := hc; exact ⟨Or.inl ⟨rfl, hn⟩, h, dk_fr.rf⟩) (fun r G' hr => ?_)
  obtain ⟨hg, k, hk, hkx, rfl⟩ := hr
  have hg := hg.symm
  subst hg
  simp only [Option.toList, List.cons_append, List.nil_append]
  obtain ⟨S, hmc, hm, hs, h3⟩ := dk_m h hk
  have hmo := mc_c hmc
  refine ru_blk' [(.astore_n 2, 1, 0, 0)] (by decide +kernel) (Nat.zero_le _) (Nat.zero_le _) (fun K R hK hR => ?_)
  simp only [↓rx_astore_n2, ↓rx_nil, ↓ry_r1, rz_set, rz_nol, rz_clr, List.set_cons_zero, List.set_cons_succ, rz_tr, Nat.reduceAdd, Int.reduceAdd, Int.reduceToNat, Int.reduceSub, Int.reduceNeg, Int.cast_ofNat_Int]
  refine hK _ _ _ _ ?_
  refine ru_blk' [(.aload_n 0, 1, 0, 0), (.aload_n 2, 1, 0, 0)] (by decide +kernel) (Nat.zero_le _) (Nat.zero_le _) (fun K R hK hR => ?_)
  simp only [↓rx_aload_n0, ↓rx_aload_n2, ↓rx_nil, ↓ry_lr0s, ↓ry_lr0z, rz_set, rz_nol, rz_clr, List.set_cons_zero, List.set_cons_succ, rz_tr, Nat.reduceAdd, Int.reduceAdd, Int.reduceToNat, Int.reduceSub, Int.reduceNeg, Int.cast_ofNat_Int]
  refine hK _ _ _ _ ?_
  refine ru_cV (As := [.ref (z + (1582 + 70 * k))]) (b := z) (S := []) l_Desk_145 (by decide +kernel) rfl hob rfl (Nat.le_of_ble_eq_true rfl) (Nat.zero_le _) (Nat.zero_le _) (c_Desk_hasOneOutputEach (d := d + 2) h hk) (fun r G' hr => ?_)
  obtain ⟨rfl, hd1, hs1, hp1⟩ := hr
  simp only [Option.toList, List.cons_append, List.nil_append]
  have hob1 := (hd1.1 0 (by decide)).1
  by_cases hf : (df_S (V.1 k) (V.1 k)).2.2 = none
  rotate_left
  · have hb : (!(df_S (V.1 k) (V.1 k)).2.2.isSome) = false := by
      cases q : (df_S (V.1 k) (V.1 k)).2.2 with
      | none => exact absurd q hf
      | some g => rfl
    rw [hb]
    refine ru_blk' [(.ifCond .ne 11, 3, 0, 0)] (by decide +kernel) (Nat.zero_le _) (Nat.zero_le _) (fun K R hK hR => ?_)
    simp only [↓rx_ifCond_ne, ↓rx_nil, ↓ry_i1, rz_set, rz_nol, rz_clr, List.set_cons_zero, List.set_cons_succ, rz_tr, Nat.reduceAdd, Int.reduceAdd, Int.reduceToNat, Int.reduceSub, Int.reduceNeg, Int.cast_ofNat_Int]
    refine ⟨fun q => absurd rfl q, fun _ => hK _ _ _ _ ?_⟩
    exact ru_throw (c := 3) (by decide) rfl rfl (by decide +kernel) (by decide +kernel) (by decide +kernel) (by decide +kernel) (Nat.le_of_ble_eq_true rfl) (Nat.le_refl _) (Nat.le_refl _) ⟨Or.inr ⟨k, hk, hkx, Or.inl ⟨rfl, hf⟩⟩, hd1.1, hd1.2⟩
  have hb : (!(df_S (V.1 k) (V.1 k)).2.2.isSome) = true := by rw [hf]; rfl
  rw [hb]
  refine ru_blk' [(.ifCond .ne 11, 3, 0, 0)] (by decide +kernel) (Nat.zero_le _) (Nat.zero_le _) (fun K R hK hR => ?_)
  simp only [↓rx_ifCond_ne, ↓rx_nil, ↓ry_i1, rz_set, rz_nol, rz_clr, List.set_cons_zero, List.set_cons_succ, rz_tr, Nat.reduceAdd, Int.reduceAdd, Int.reduceToNat, Int.reduceSub, Int.reduceNeg, Int.cast_ofNat_Int]
  refine ⟨fun _ => hK _ _ _ _ ?_, fun q => absurd q (by decide)⟩
  obtain ⟨S1, c1, m1, s1, w1⟩ := id hs1.1
  obtain ⟨I6, A6, J6, X6, v6, bd6, S6, r6, t6, x6⟩ := hd1.1 6 (by decide)
  refine ru_blk' [(.aload_n 0, 1, 0, 0), (.getfield 51, 3, 9, 6), (.aload_n 2, 1, 0, 0)] (by decide +kernel) (Nat.zero_le _) (Nat.zero_le _) (fun K R hK hR => ?_)
  simp only [↓rx_aload_n0, ↓rx_aload_n2, ↓rx_getfield, ↓rx_nil, ↓ry_fvs, ↓ry_fvz, ↓ry_lr0s, ↓ry_lr0z, ↓ry_obu, ↓ry_r1, ↓rh_ob hob1, dk_fs, rz_set, rz_nol, rz_clr, List.set_cons_zero, List.set_cons_succ, rz_tr, Nat.reduceAdd, Int.reduceAdd, Int.reduceToNat, Int.reduceSub, Int.reduceNeg, Int.cast_ofNat_Int]
  refine hK _ _ _ _ ?_
  have hcv := c_Res_verdictOn0 (w := w) (d := d + 2) (am := z + (1582 + 70 * k)) (M1 := S1) (m := V.1 k) (cl := mk_cl (V.1 k)) r6 ⟨c1, m1, s1, by unfold mc_ap; omega⟩ w1 t6 x6
  refine ru_cV (As := [.ref (z + (1582 + 70 * k))]) (b := z + 327) (S := []) l_Desk_174 (by decide +kernel) rfl r6.2 rfl (Nat.le_of_ble_eq_true rfl) (Nat.zero_le _) (Nat.zero_le _) (hcv) (fun r G' hr => ?_)
  obtain ⟨rfl, I7, A7, J7, X7, S7, rfl, x7, t7⟩ := hr
  simp only [Option.toList, List.cons_append, List.nil_append]
  have hp2 : dk_pf (rs_put G' (z + 327) I7 A7 J7 X7 (va_up (fun _ => 0) 0 (z + (1582 + 70 * k)))) z (df_S (V.1 k) (V.1 k)) := dk_pf_keep hp1 (fun x h1 h2 => rs_out (by omega))
  have hu := dk_uprs (P := va_up (fun _ => 0) 0 (z + (1582 + 70 * k))) hd1.1 t7 x7
  generalize rs_put G' (z + 327) I7 A7 J7 X7 (va_up (fun _ => 0) 0 (z + (1582 + 70 * k))) = G2 at *
  have hv2 := hv k hk
  generalize hvr : rs_ver (V.1 k) (mk_cl (V.1 k)) = vr at *
  refine ru_blk' [(.istore_n 3, 1, 0, 0)] (by decide +kernel) (Nat.zero_le _) (Nat.zero_le _) (fun K R hK hR => ?_)
  simp only [↓rx_istore_n3, ↓rx_nil, ↓ry_i1, rz_set, rz_nol, rz_clr, List.set_cons_zero, List.set_cons_succ, rz_tr, Nat.reduceAdd, Int.reduceAdd, Int.reduceToNat, Int.reduceSub, Int.reduceNeg, Int.cast_ofNat_Int]
  refine hK _ _ _ _ ?_
  refine ru_blk' [(.iload_n 3, 1, 0, 0), (.iconst 2, 1, 0, 0), (.if_icmp .ne 11, 3, 0, 0)] (by decide +kernel) (Nat.zero_le _) (Nat.zero_le _) (fun K R hK hR => ?_)
  simp only [rw_c2, ↓rx_iconst, ↓rx_if_icmp_ne, ↓rx_iload_n3, ↓rx_nil, ↓ry_i2, ↓ry_li0s, ↓ry_li0z, rz_set, rz_nol, rz_clr, List.set_cons_zero, List.set_cons_succ, rz_tr, Nat.reduceAdd, Int.reduceAdd, Int.reduceToNat, Int.reduceSub, Int.reduceNeg, Int.cast_ofNat_Int]
  by_cases c2 : vr = 2
  · subst c2
    refine ⟨fun q => absurd rfl q, fun _ => hK _ _ _ _ ?_⟩
    exact ru_throw (c := 2) (by decide) rfl rfl (by decide +kernel) (by decide +kernel) (by decide +kernel) (by decide +kernel) (Nat.le_of_ble_eq_true rfl) (Nat.le_refl _) (Nat.le_refl _) ⟨Or.inr ⟨k, hk, hkx, Or.inr ⟨rfl, hf, hvr⟩⟩, hu.1.1, hd1.2.trans hu.1.2⟩
  refine ⟨fun _ => hK _ _ _ _ ?_, fun q => absurd ((nI_eq (by omega) (by decide)).mp q) c2⟩
  by_cases c0 : vr = 0
  · subst c0
    refine ru_blk' [(.iload_n 3, 1, 0, 0), (.ifCond .ne 7, 3, 0, 0), (.iconst 1, 1, 0, 0), (.goto 4, 3, 0, 0)] (by decide +kernel) (Nat.zero_le _) (Nat.zero_le _) (fun K R hK hR => ?_)
    simp only [rw_c1, ↓rx_goto, ↓rx_iconst, ↓rx_ifCond_ne, ↓rx_iload_n3, ↓rx_nil, ↓ry_i1, ↓ry_li0s, ↓ry_li0z, rz_set, rz_nol, rz_clr, List.set_cons_zero, List.set_cons_succ, rz_tr, Nat.reduceAdd, Int.reduceAdd, Int.reduceToNat, Int.reduceSub, Int.reduceNeg, Int.cast_ofNat_Int]
    refine ⟨fun q => absurd rfl q, fun _ => hK _ _ _ _ ?_⟩
    refine ru_blk' [(.ireturn, 1, 0, 0)] (by decide +kernel) (Nat.zero_le _) (Nat.zero_le _) (fun K R hK hR => ?_)
    simp only [↓rx_ireturn, ↓rx_nil, rz_set, rz_nol, rz_clr, List.set_cons_zero, List.set_cons_succ, rz_tr, Nat.reduceAdd, Int.reduceAdd, Int.reduceToNat, Int.reduceSub, Int.reduceNeg, Int.cast_ofNat_Int]
    exact hR _ _ rz_nb_1 ⟨⟨rfl, rfl⟩, rfl, V, ⟨rfl, k, hk, hkx, hf, by rw [hvr]; decide, by rw [hvr]; rfl⟩, hu.1.1, hd1.2.trans hu.1.2⟩
  refine ru_blk' [(.iload_n 3, 1, 0, 0), (.ifCond .ne 7, 3, 0, 0)] (by decide +kernel) (Nat.zero_le _) (Nat.zero_le _) (fun K R hK hR => ?_)
  simp only [↓rx_ifCond_ne, ↓rx_iload_n3, ↓rx_nil, ↓ry_i1, ↓ry_li0s, ↓ry_li0z, rz_set, rz_nol, rz_clr, List.set_cons_zero, List.set_cons_succ, rz_tr, Nat.reduceAdd, Int.reduceAdd, Int.reduceToNat, Int.reduceSub, Int.reduceNeg, Int.cast_ofNat_Int]
  refine ⟨fun _ => hK _ _ _ _ ?_, fun q => absurd ((nI_eq (b := 0) (by omega) (by decide)).mp q) c0⟩
  refine ru_blk' [(.iconst 0, 1, 0, 0), (.ireturn, 1, 0, 0)] (by decide +kernel) (Nat.zero_le _) (Nat.zero_le _) (fun K R hK hR => ?_)
  simp only [rw_c0, ↓rx_iconst, ↓rx_ireturn, ↓rx_nil, rz_set, rz_nol, rz_clr, List.set_cons_zero, List.set_cons_succ, rz_tr, Nat.reduceAdd, Int.reduceAdd, Int.reduceToNat, Int.reduceSub, Int.reduceNeg, Int.cast_ofNat_Int]
  exact hR _ _ rz_nb_0 ⟨⟨rfl, rfl⟩, rfl, V, ⟨rfl, k, hk, hkx, hf, by rw [hvr]; exact c2, by rw [hvr, decide_eq_false c0]; rfl⟩, hu.1.1, hd1.2.trans hu.1.2⟩
