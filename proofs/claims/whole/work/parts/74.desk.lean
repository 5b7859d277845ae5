/-! WriterDesk: next, ends -/
theorem dk_made {V : dk_V} {G : rz_G} {z : Nat} (h : dk G z V) : ∃ (I : Nat → Int32) (A : Nat → Nat → Int32) (J : Nat → Nat → Int64) (X : Nat → List Nat) (P : Nat → Nat), sm_is G (dk_sp z (!V.2.2.2)) I A J X P ∧ sm_xo X ∧ sv_is I A X V.2.2.1 := by
  rcases dk_sp2 z (!V.2.2.2) with ⟨e1, e2⟩ | ⟨e1, e2⟩
  · obtain ⟨I, A, J, X, P, h1, h2, h3⟩ := h 8 (by decide)
    have e3 : V.2.2.2 = false := by simpa using e1
    exact ⟨I, A, J, X, P, by rw [e2]; exact h1, h2, h3 _ (by rw [e3]; rfl)⟩
  · obtain ⟨I, A, J, X, P, h1, h2, h3⟩ := h 9 (by decide)
    have e3 : V.2.2.2 = true := by simpa using e1
    exact ⟨I, A, J, X, P, by rw [e2]; exact h1, h2, h3 _ (by rw [e3]; rfl)⟩

set_option maxRecDepth 100000 in
set_option maxHeartbeats 4000000 in
theorem c_Desk_next {w : rz_w} {d : Nat} {G : rz_G} {z : Nat} {V : dk_V} (h : dk G z V) (x y : Int32)  : ru_C w (d + 9) 1 6 y_Desk_next m_Desk_next [.ref z, .int x, .int y] G (ru_V V z G (fun r V' => ∃ s l, s < V.2.2.1.2.1.length ∧ l < 3 ∧ x = nI s ∧ y = nI l ∧ r = some (.int (bb_t V.2.2.1.2.2[s * 3 + l]?)) ∧ V' = dk_ur V (bb_w V.2.2.1.2.2[s * 3 + l]?)) (fun c => (c = 3 ∧ V.2.2.1.2.1.length = 0) ∨ (c = 1 ∧ V.2.2.1.2.1.length ≠ 0 ∧ ¬ ((∃ s, s < V.2.2.1.2.1.length ∧ x = nI s) ∧ ∃ l, l < 3 ∧ y = nI l)))) := by
  obtain ⟨hob, hma⟩ := h 0 (by decide)
  refine ru_enter [some (.ref z), some (.int x), some (.int y), none] rfl (by decide +kernel) rfl rfl (Nat.le_of_ble_eq_true rfl) rfl ?_
  obtain ⟨I, A, J, X, P, hsm, hxo, hsv⟩ := dk_made h
  have hmd : z + (if V.2.2.2 = true then 1255 else 928) = dk_sp z (!V.2.2.2) := by cases V.2.2.2 <;> rfl
  have hsp := dk_sp2 z (!V.2.2.2)
  have hsc : G (dk_sp z (!V.2.2.2)) = some (.inr (7, sm_fs (dk_sp z (!V.2.2.2)) I P)) := hsm 0 (by decide)
  have hw : wd_is G (z + 2) 257 V.2.1 := h 1 (by decide)
  obtain ⟨i0, n40, -, x0, htg, hfi⟩ := id hsv
  generalize dk_sp z (!V.2.2.2) = ma at *
  have esm := sm_id hsm
  refine ru_blk' [(.aload_n 0, 1, 0, 0), (.getfield 65, 3, 9, 8), (.getfield 182, 3, 7, 0), (.ifCond .ne 11, 3, 0, 0)] (by decide +kernel) (Nat.zero_le _) (Nat.zero_le _) (fun K R hK hR => ?_)
  simp only [↓rx_aload_n0, ↓rx_getfield, ↓rx_ifCond_ne, ↓rx_nil, ↓ry_fvs, ↓ry_fvz, ↓ry_i1, ↓ry_lr0s, ↓ry_lr0z, ↓ry_obu, ↓ry_r1, ↓rh_ob hob, dk_fs, hmd, ↓rh_ob hsc, sm_fs, i0, rz_set, rz_nol, rz_clr, List.set_cons_zero, List.set_cons_succ, rz_tr, Nat.reduceAdd, Int.reduceAdd, Int.reduceToNat, Int.reduceSub, Int.reduceNeg, Int.cast_ofNat_Int]
  by_cases n0 : V.2.2.1.2.1.length = 0
  · rw [n0]
    refine ⟨fun q => absurd rfl q, fun _ => hK _ _ _ _ ?_⟩
    exact ru_throw (c := 3) (by decide) rfl rfl (by decide +kernel) (by decide +kernel) (by decide +kernel) (by decide +kernel) (Nat.le_of_ble_eq_true rfl) (Nat.le_refl _) (Nat.le_refl _) ⟨Or.inl ⟨rfl, n0⟩, h, dk_fr.rf⟩
  refine ⟨fun _ => hK _ _ _ _ ?_, fun q => absurd q (nI_ne0 (by omega) (by omega))⟩
  have hthrow : ¬ ((∃ s, s < V.2.2.1.2.1.length ∧ x = nI s) ∧ ∃ l, l < 3 ∧ y = nI l) → ru_T w (d + 9) 1 6 m_Desk_next 0 0 36 [some (.ref z), some (.int x), some (.int y), none] [] G (ru_V V z G (fun r V' => ∃ s l, s < V.2.2.1.2.1.length ∧ l < 3 ∧ x = nI s ∧ y = nI l ∧ r = some (.int (bb_t V.2.2.1.2.2[s * 3 + l]?)) ∧ V' = dk_ur V (bb_w V.2.2.1.2.2[s * 3 + l]?)) (fun c => (c = 3 ∧ V.2.2.1.2.1.length = 0) ∨ (c = 1 ∧ V.2.2.1.2.1.length ≠ 0 ∧ ¬ ((∃ s, s < V.2.2.1.2.1.length ∧ x = nI s) ∧ ∃ l, l < 3 ∧ y = nI l)))) := fun q => by
    exact ru_throw (c := 1) (by decide) rfl rfl (by decide +kernel) (by decide +kernel) (by decide +kernel) (by decide +kernel) (Nat.le_of_ble_eq_true rfl) (Nat.le_refl _) (Nat.le_refl _) ⟨Or.inr ⟨rfl, n0, q⟩, h, dk_fr.rf⟩
  have hcs := c_Small_hasState (w := w) (d := d + 8) (G := G) (a := ma) (A := A) (J := J) (X := X) (P := P) i0 n40 x
  rw [esm] at hcs
  refine ru_blk' [(.aload_n 0, 1, 0, 0), (.getfield 65, 3, 9, 8), (.iload_n 1, 1, 0, 0)] (by decide +kernel) (Nat.zero_le _) (Nat.zero_le _) (fun K R hK hR => ?_)
  simp only [↓rx_aload_n0, ↓rx_getfield, ↓rx_iload_n1, ↓rx_nil, ↓ry_fvs, ↓ry_fvz, ↓ry_li0s, ↓ry_li0z, ↓ry_lr0s, ↓ry_lr0z, ↓ry_obu, ↓ry_r1, ↓rh_ob hob, dk_fs, hmd, rz_set, rz_nol, rz_clr, List.set_cons_zero, List.set_cons_succ, rz_tr, Nat.reduceAdd, Int.reduceAdd, Int.reduceToNat, Int.reduceSub, Int.reduceNeg, Int.cast_ofNat_Int]
  refine hK _ _ _ _ ?_
  refine ru_cV (As := [.int x]) (b := ma) (S := []) l_Desk_185 (by decide +kernel) rfl hsc rfl (Nat.le_of_ble_eq_true rfl) (Nat.zero_le _) (Nat.zero_le _) (hcs) (fun r G' hr => ?_)
  obtain ⟨hg, hr⟩ := hr
  have hg := hg.symm
  subst hg
  rcases hr with ⟨s, hs, rfl, rfl⟩ | ⟨hno, rfl⟩
  rotate_left
  · simp only [Option.toList, List.cons_append, List.nil_append]
    refine ru_blk' [(.ifCond .eq 10, 3, 0, 0)] (by decide +kernel) (Nat.zero_le _) (Nat.zero_le _) (fun K R hK hR => ?_)
    simp only [↓rx_ifCond_eq, ↓rx_nil, ↓ry_i1, rz_set, rz_nol, rz_clr, List.set_cons_zero, List.set_cons_succ, rz_tr, Nat.reduceAdd, Int.reduceAdd, Int.reduceToNat, Int.reduceSub, Int.reduceNeg, Int.cast_ofNat_Int]
    exact ⟨fun _ => hK _ _ _ _ (hthrow (fun q => by obtain ⟨j, hj, e⟩ := q.1; exact hno j hj e)), fun z => absurd trivial z⟩
  simp only [Option.toList, List.cons_append, List.nil_append]
  refine ru_blk' [(.ifCond .eq 10, 3, 0, 0), (.iload_n 2, 1, 0, 0)] (by decide +kernel) (Nat.zero_le _) (Nat.zero_le _) (fun K R hK hR => ?_)
  simp only [↓rx_ifCond_eq, ↓rx_iload_n2, ↓rx_nil, ↓ry_i1, ↓ry_li0s, ↓ry_li0z, rz_set, rz_nol, rz_clr, List.set_cons_zero, List.set_cons_succ, rz_tr, Nat.reduceAdd, Int.reduceAdd, Int.reduceToNat, Int.reduceSub, Int.reduceNeg, Int.cast_ofNat_Int]
  refine ⟨fun q => absurd q (by decide), fun _ => hK _ _ _ _ ?_⟩
  refine ru_cS (As := [.int y]) (S := []) l_Desk_87 (by decide +kernel) rfl (Nat.le_of_ble_eq_true rfl) (Nat.zero_le _) (Nat.zero_le _) (c_Desk_isLetter (d := d + 8) y) (fun r G' hr => ?_)
  obtain ⟨hg, hr⟩ := hr
  have hg := hg.symm
  subst hg
  rcases hr with ⟨l, hl, rfl, rfl⟩ | ⟨hno, rfl⟩
  rotate_left
  · simp only [Option.toList, List.cons_append, List.nil_append]
    refine ru_blk' [(.ifCond .ne 11, 3, 0, 0)] (by decide +kernel) (Nat.zero_le _) (Nat.zero_le _) (fun K R hK hR => ?_)
    simp only [↓rx_ifCond_ne, ↓rx_nil, ↓ry_i1, rz_set, rz_nol, rz_clr, List.set_cons_zero, List.set_cons_succ, rz_tr, Nat.reduceAdd, Int.reduceAdd, Int.reduceToNat, Int.reduceSub, Int.reduceNeg, Int.cast_ofNat_Int]
    exact ⟨fun q => absurd trivial q, fun _ => hK _ _ _ _ (hthrow (fun q => by obtain ⟨j, hj, e⟩ := q.2; exact hno j hj e))⟩
  simp only [Option.toList, List.cons_append, List.nil_append]
  refine ru_blk' [(.ifCond .ne 11, 3, 0, 0)] (by decide +kernel) (Nat.zero_le _) (Nat.zero_le _) (fun K R hK hR => ?_)
  simp only [↓rx_ifCond_ne, ↓rx_nil, ↓ry_i1, rz_set, rz_nol, rz_clr, List.set_cons_zero, List.set_cons_succ, rz_tr, Nat.reduceAdd, Int.reduceAdd, Int.reduceToNat, Int.reduceSub, Int.reduceNeg, Int.cast_ofNat_Int]
  refine ⟨fun _ => hK _ _ _ _ ?_, fun q => absurd q (by decide)⟩
  refine ru_blk' [(.iload_n 1, 1, 0, 0), (.iconst 3, 1, 0, 0), (.imul, 1, 0, 0), (.iload_n 2, 1, 0, 0), (.iadd, 1, 0, 0), (.istore_n 3, 1, 0, 0)] (by decide +kernel) (Nat.zero_le _) (Nat.zero_le _) (fun K R hK hR => ?_)
  simp only [rw_c3, ↓rx_iadd, ↓rx_iconst, ↓rx_iload_n1, ↓rx_iload_n2, ↓rx_imul, ↓rx_istore_n3, ↓rx_nil, ↓ry_i1, ↓ry_i2, ↓ry_li0s, ↓ry_li0z, pk_mul, nI_add, rz_set, rz_nol, rz_clr, List.set_cons_zero, List.set_cons_succ, rz_tr, Nat.reduceAdd, Int.reduceAdd, Int.reduceToNat, Int.reduceSub, Int.reduceNeg, Int.cast_ofNat_Int]
  refine hK _ _ _ _ ?_
  obtain ⟨ht1, ht2⟩ := htg (s * 3 + l) (by omega)
  have c2 : G (ma + 2) = some (.inl (4, 120, .inr (.inr (.inr (.inr (fun i => some (ma + (7 + 2 * i)))))))) := hsm 2 (by decide)
  have c1 : G (ma + 1) = some (.inl (0, 120, .inl (A 0))) := hsm 1 (by decide)
  have wi : wd_is G (ma + (7 + 2 * (s * 3 + l))) 11 (bb_w V.2.2.1.2.2[s * 3 + l]?) := by
    have := sm_wi (G := G) (a := ma) (I := I) (A := A) (J := J) (X := X) (P := P) (j := s * 3 + l) (by omega) (hxo _ (by omega))
    rw [esm, ht2] at this; exact this
  refine ru_blk' [(.aload_n 0, 1, 0, 0), (.getfield 20, 3, 9, 1), (.aload_n 0, 1, 0, 0), (.getfield 65, 3, 9, 8), (.getfield 186, 3, 7, 2), (.iload_n 3, 1, 0, 0), (.aaload, 1, 0, 0)] (by decide +kernel) (Nat.zero_le _) (Nat.zero_le _) (fun K R hK hR => ?_)
  simp only [Nat.reduceEqDiff, false_or, or_false, or_true, reduceIte, ↓rx_aaload, ↓rx_aload_n0, ↓rx_getfield, ↓rx_iload_n3, ↓rx_nil, ↓ry_fvs, ↓ry_fvz, ↓ry_li0s, ↓ry_li0z, ↓ry_lr0s, ↓ry_lr0z, ↓ry_obu, ↓ry_r1, ↓ry_ri, true_and, true_or, ↓rh_ob hob, dk_fs, hmd, ↓rh_ob hsc, sm_fs, ↓rh_ra c2, va_rfs, rz_set, rz_nol, rz_clr, List.set_cons_zero, List.set_cons_succ, rz_tr, Nat.reduceAdd, Int.reduceAdd, Int.reduceToNat, Int.reduceSub, Int.reduceNeg, Int.cast_ofNat_Int]
  rw [nI_clamp (by omega)]
  refine ⟨vp_in_nI (by omega) (by decide), hK _ _ _ _ ?_⟩
  refine ru_cV (As := [.ref (ma + (7 + 2 * (s * 3 + l)))]) (b := z + 2) (S := []) l_Desk_171 (by decide +kernel) rfl hw.1 rfl (Nat.le_of_ble_eq_true rfl) (Nat.zero_le _) (Nat.zero_le _) (c_Word_copy hw wi (by omega)) (fun r G' hr => ?_)
  obtain ⟨rfl, rfl⟩ := hr
  have hwl := wi.2.2.1
  rw [if_pos (by omega)]
  simp only [Option.toList, List.nil_append]
  have hd := dk_put (xs := bb_w V.2.2.1.2.2[s * 3 + l]?) h ⟨by omega, wi.2.2.2.1, by decide⟩
  have hob2 := (hd.1 0 (by decide)).1
  have hsc2 : wd_put G (z + 2) 257 (bb_w V.2.2.1.2.2[s * 3 + l]?) ma = some (.inr (7, sm_fs ma I P)) := by rw [wd_pout (by omega) (by omega)]; exact hsc
  have c12 : wd_put G (z + 2) 257 (bb_w V.2.2.1.2.2[s * 3 + l]?) (ma + 1) = some (.inl (0, 120, .inl (A 0))) := by rw [wd_pout (by omega) (by omega)]; exact c1
  change wd_put G (z + 2) 257 (bb_w V.2.2.1.2.2[s * 3 + l]?) z = some (.inr (9, dk_fs z V.2.2.2)) at hob2
  refine ru_blk' [(.aload_n 0, 1, 0, 0), (.getfield 65, 3, 9, 8), (.getfield 187, 3, 7, 1), (.iload_n 3, 1, 0, 0), (.iaload, 1, 0, 0), (.ireturn, 1, 0, 0)] (by decide +kernel) (Nat.zero_le _) (Nat.zero_le _) (fun K R hK hR => ?_)
  simp only [↓rx_aload_n0, ↓rx_getfield, ↓rx_iaload, ↓rx_iload_n3, ↓rx_ireturn, ↓rx_nil, ↓ry_fvs, ↓ry_fvz, ↓ry_iau, ↓ry_li0s, ↓ry_li0z, ↓ry_lr0s, ↓ry_lr0z, ↓ry_obu, ↓ry_r1, ↓ry_ri, true_and, ↓rh_ob hob2, dk_fs, hmd, ↓rh_ob hsc2, sm_fs, ↓rh_ia c12, rz_set, rz_nol, rz_clr, List.set_cons_zero, List.set_cons_succ, rz_tr, Nat.reduceAdd, Int.reduceAdd, Int.reduceToNat, Int.reduceSub, Int.reduceNeg, Int.cast_ofNat_Int]
  rw [nI_clamp (by omega), ht1]
  exact ⟨vp_in_nI (by omega) (by decide), hR _ _ (rz_nb_i (by decide)) ⟨⟨rfl, rfl⟩, rfl, _, ⟨s, l, hs, hl, rfl, rfl, rfl, rfl⟩, hd.1, hd.2⟩⟩
set_option maxRecDepth 100000 in
set_option maxHeartbeats 4000000 in
theorem c_Desk_ends {w : rz_w} {d : Nat} {G : rz_G} {z : Nat} {V : dk_V} (h : dk G z V) (x : Int32)  : ru_C w (d + 9) 1 6 y_Desk_ends m_Desk_ends [.ref z, .int x] G (ru_V V z G (fun r V' => V.2.2.1.2.1.length ≠ 0 ∧ ((x = -1 ∧ r = some (.int 1) ∧ V' = dk_ur V V.2.2.1.1) ∨ ∃ s f, V.2.2.1.2.1[s]? = some f ∧ x = nI s ∧ r = some (.int (rz_b f.isSome)) ∧ V' = dk_ur V (f.getD []))) (fun c => (c = 3 ∧ V.2.2.1.2.1.length = 0) ∨ (c = 1 ∧ V.2.2.1.2.1.length ≠ 0 ∧ x ≠ -1 ∧ ∀ s, s < V.2.2.1.2.1.length → x ≠ nI s))) := by
  obtain ⟨hob, hma⟩ := h 0 (by decide)
  refine ru_enter [some (.ref z), some (.int x)] rfl (by decide +kernel) rfl rfl (Nat.le_of_ble_eq_true rfl) rfl ?_
  obtain ⟨I, A, J, X, P, hsm, hxo, hsv⟩ := dk_made h
  have hmd : z + (if V.2.2.2 = true then 1255 else 928) = dk_sp z (!V.2.2.2) := by cases V.2.2.2 <;> rfl
  have hsp := dk_sp2 z (!V.2.2.2)
  have hsc : G (dk_sp z (!V.2.2.2)) = some (.inr (7, sm_fs (dk_sp z (!V.2.2.2)) I P)) := hsm 0 (by decide)
  have hw : wd_is G (z + 2) 257 V.2.1 := h 1 (by decide)
  obtain ⟨i0, n40, -, x0, htg, hfi⟩ := id hsv
  generalize dk_sp z (!V.2.2.2) = ma at *
  have esm := sm_id hsm
  refine ru_blk' [(.aload_n 0, 1, 0, 0), (.getfield 65, 3, 9, 8), (.getfield 182, 3, 7, 0), (.ifCond .ne 11, 3, 0, 0)] (by decide +kernel) (Nat.zero_le _) (Nat.zero_le _) (fun K R hK hR => ?_)
  simp only [↓rx_aload_n0, ↓rx_getfield, ↓rx_ifCond_ne, ↓rx_nil, ↓ry_fvs, ↓ry_fvz, ↓ry_i1, ↓ry_lr0s, ↓ry_lr0z, ↓ry_obu, ↓ry_r1, ↓rh_ob hob, dk_fs, hmd, ↓rh_ob hsc, sm_fs, i0, rz_set, rz_nol, rz_clr, List.set_cons_zero, List.set_cons_succ, rz_tr, Nat.reduceAdd, Int.reduceAdd, Int.reduceToNat, Int.reduceSub, Int.reduceNeg, Int.cast_ofNat_Int]
  by_cases n0 : V.2.2.1.2.1.length = 0
  · rw [n0]
    refine ⟨fun q => absurd rfl q, fun _ => hK _ _ _ _ ?_⟩
    exact ru_throw (c := 3) (by decide) rfl rfl (by decide +kernel) (by decide +kernel) (by decide +kernel) (by decide +kernel) (Nat.le_of_ble_eq_true rfl) (Nat.le_refl _) (Nat.le_refl _) ⟨Or.inl ⟨rfl, n0⟩, h, dk_fr.rf⟩
  refine ⟨fun _ => hK _ _ _ _ ?_, fun q => absurd q (nI_ne0 (by omega) (by omega))⟩
  have wcopy : ∀ (b : Nat) (xs : List Nat), wd_is G b 11 xs → xs.length ≤ 4112 := fun b xs q => by have := q.2.2.1; omega
  by_cases cm : x = -1
  · subst cm
    refine ru_blk' [(.iload_n 1, 1, 0, 0), (.iconst (-1), 1, 0, 0), (.if_icmp .eq 22, 3, 0, 0)] (by decide +kernel) (Nat.zero_le _) (Nat.zero_le _) (fun K R hK hR => ?_)
    simp only [rw_cm1, ↓rx_iconst, ↓rx_if_icmp_eq, ↓rx_iload_n1, ↓rx_nil, ↓ry_i2, ↓ry_li0s, ↓ry_li0z, rz_set, rz_nol, rz_clr, List.set_cons_zero, List.set_cons_succ, rz_tr, Nat.reduceAdd, Int.reduceAdd, Int.reduceToNat, Int.reduceSub, Int.reduceNeg, Int.cast_ofNat_Int]
    refine ⟨fun _ => hK _ _ _ _ ?_, fun q => absurd trivial q⟩
    refine ru_blk' [(.iload_n 1, 1, 0, 0), (.iconst (-1), 1, 0, 0), (.if_icmp .ne 19, 3, 0, 0), (.aload_n 0, 1, 0, 0), (.getfield 20, 3, 9, 1), (.aload_n 0, 1, 0, 0), (.getfield 65, 3, 9, 8), (.getfield 191, 3, 7, 5)] (by decide +kernel) (Nat.zero_le _) (Nat.zero_le _) (fun K R hK hR => ?_)
    simp only [rw_cm1, ↓rx_aload_n0, ↓rx_getfield, ↓rx_iconst, ↓rx_if_icmp_ne, ↓rx_iload_n1, ↓rx_nil, ↓ry_fvs, ↓ry_fvz, ↓ry_i2, ↓ry_li0s, ↓ry_li0z, ↓ry_lr0s, ↓ry_lr0z, ↓ry_obu, ↓ry_r1, ↓rh_ob hob, dk_fs, hmd, ↓rh_ob hsc, sm_fs, rz_set, rz_nol, rz_clr, List.set_cons_zero, List.set_cons_succ, rz_tr, Nat.reduceAdd, Int.reduceAdd, Int.reduceToNat, Int.reduceSub, Int.reduceNeg, Int.cast_ofNat_Int]
    refine ⟨fun q => absurd trivial q, fun _ => hK _ _ _ _ ?_⟩
    have wi : wd_is G (ma + 5) 11 V.2.2.1.1 := by
      have := sm_wi5 (G := G) (a := ma) (I := I) (A := A) (J := J) (X := X) (P := P) (hxo 0 (by decide))
      rw [esm, x0] at this; exact this
    refine ru_cV (As := [.ref (ma + 5)]) (b := z + 2) (S := []) l_Desk_171 (by decide +kernel) rfl hw.1 rfl (Nat.le_of_ble_eq_true rfl) (Nat.zero_le _) (Nat.zero_le _) (c_Word_copy hw wi (by omega)) (fun r G' hr => ?_)
    obtain ⟨rfl, rfl⟩ := hr
    have hwl := wi.2.2.1
    rw [if_pos (by omega)]
    simp only [Option.toList, List.nil_append]
    have hd := dk_put (xs := V.2.2.1.1) h ⟨by omega, wi.2.2.2.1, by decide⟩
    refine ru_blk' [(.iconst 1, 1, 0, 0), (.ireturn, 1, 0, 0)] (by decide +kernel) (Nat.zero_le _) (Nat.zero_le _) (fun K R hK hR => ?_)
    simp only [rw_c1, ↓rx_iconst, ↓rx_ireturn, ↓rx_nil, rz_set, rz_nol, rz_clr, List.set_cons_zero, List.set_cons_succ, rz_tr, Nat.reduceAdd, Int.reduceAdd, Int.reduceToNat, Int.reduceSub, Int.reduceNeg, Int.cast_ofNat_Int]
    exact hR _ _ rz_nb_1 ⟨⟨rfl, rfl⟩, rfl, _, ⟨n0, Or.inl ⟨trivial, rfl, rfl⟩⟩, hd.1, hd.2⟩
  have hcs := c_Small_hasState (w := w) (d := d + 8) (G := G) (a := ma) (A := A) (J := J) (X := X) (P := P) i0 n40 x
  rw [esm] at hcs
  refine ru_blk' [(.iload_n 1, 1, 0, 0), (.iconst (-1), 1, 0, 0), (.if_icmp .eq 22, 3, 0, 0), (.aload_n 0, 1, 0, 0), (.getfield 65, 3, 9, 8), (.iload_n 1, 1, 0, 0)] (by decide +kernel) (Nat.zero_le _) (Nat.zero_le _) (fun K R hK hR => ?_)
  simp only [rw_cm1, ↓rx_aload_n0, ↓rx_getfield, ↓rx_iconst, ↓rx_if_icmp_eq, ↓rx_iload_n1, ↓rx_nil, ↓ry_fvs, ↓ry_fvz, ↓ry_i2, ↓ry_li0s, ↓ry_li0z, ↓ry_lr0s, ↓ry_lr0z, ↓ry_obu, ↓ry_r1, ↓rh_ob hob, dk_fs, hmd, rz_set, rz_nol, rz_clr, List.set_cons_zero, List.set_cons_succ, rz_tr, Nat.reduceAdd, Int.reduceAdd, Int.reduceToNat, Int.reduceSub, Int.reduceNeg, Int.cast_ofNat_Int]
  refine ⟨fun q => absurd q cm, fun _ => hK _ _ _ _ ?_⟩
  refine ru_cV (As := [.int x]) (b := ma) (S := []) l_Desk_185 (by decide +kernel) rfl hsc rfl (Nat.le_of_ble_eq_true rfl) (Nat.zero_le _) (Nat.zero_le _) (hcs) (fun r G' hr => ?_)
  obtain ⟨hg, hr⟩ := hr
  have hg := hg.symm
  subst hg
  rcases hr with ⟨s, hs, rfl, rfl⟩ | ⟨hno, rfl⟩
  rotate_left
  · simp only [Option.toList, List.cons_append, List.nil_append]
    refine ru_blk' [(.ifCond .ne 11, 3, 0, 0)] (by decide +kernel) (Nat.zero_le _) (Nat.zero_le _) (fun K R hK hR => ?_)
    simp only [↓rx_ifCond_ne, ↓rx_nil, ↓ry_i1, rz_set, rz_nol, rz_clr, List.set_cons_zero, List.set_cons_succ, rz_tr, Nat.reduceAdd, Int.reduceAdd, Int.reduceToNat, Int.reduceSub, Int.reduceNeg, Int.cast_ofNat_Int]
    refine ⟨fun q => absurd trivial q, fun _ => hK _ _ _ _ ?_⟩
    exact ru_throw (c := 1) (by decide) rfl rfl (by decide +kernel) (by decide +kernel) (by decide +kernel) (by decide +kernel) (Nat.le_of_ble_eq_true rfl) (Nat.le_refl _) (Nat.le_refl _) ⟨Or.inr ⟨rfl, n0, cm, hno⟩, h, dk_fr.rf⟩
  simp only [Option.toList, List.cons_append, List.nil_append]
  refine ru_blk' [(.ifCond .ne 11, 3, 0, 0)] (by decide +kernel) (Nat.zero_le _) (Nat.zero_le _) (fun K R hK hR => ?_)
  simp only [↓rx_ifCond_ne, ↓rx_nil, ↓ry_i1, rz_set, rz_nol, rz_clr, List.set_cons_zero, List.set_cons_succ, rz_tr, Nat.reduceAdd, Int.reduceAdd, Int.reduceToNat, Int.reduceSub, Int.reduceNeg, Int.cast_ofNat_Int]
  refine ⟨fun _ => hK _ _ _ _ ?_, fun q => absurd q (by decide)⟩
  refine ru_blk' [(.iload_n 1, 1, 0, 0), (.iconst (-1), 1, 0, 0), (.if_icmp .ne 19, 3, 0, 0)] (by decide +kernel) (Nat.zero_le _) (Nat.zero_le _) (fun K R hK hR => ?_)
  simp only [rw_cm1, ↓rx_iconst, ↓rx_if_icmp_ne, ↓rx_iload_n1, ↓rx_nil, ↓ry_i2, ↓ry_li0s, ↓ry_li0z, rz_set, rz_nol, rz_clr, List.set_cons_zero, List.set_cons_succ, rz_tr, Nat.reduceAdd, Int.reduceAdd, Int.reduceToNat, Int.reduceSub, Int.reduceNeg, Int.cast_ofNat_Int]
  refine ⟨fun _ => hK _ _ _ _ ?_, fun q => absurd q cm⟩
  obtain ⟨f, hf⟩ : ∃ f, V.2.2.1.2.1[s]? = some f := ⟨_, List.getElem?_eq_getElem hs⟩
  obtain ⟨hf1, hf2⟩ := hfi s f hf
  have c4 : G (ma + 4) = some (.inl (4, 40, .inr (.inr (.inr (.inr (fun i => some (ma + (7 + 2 * (120 + i))))))))) := hsm 4 (by decide)
  have c3 : G (ma + 3) = some (.inl (3, 40, .inl (A 1))) := hsm 3 (by decide)
  have wi : wd_is G (ma + (7 + 2 * (120 + s))) 11 (f.getD []) := by
    have := sm_wi (G := G) (a := ma) (I := I) (A := A) (J := J) (X := X) (P := P) (j := 120 + s) (by omega) (hxo _ (by omega))
    rw [esm, show 1 + (120 + s) = 121 + s by omega, hf2] at this; exact this
  refine ru_blk' [(.aload_n 0, 1, 0, 0), (.getfield 20, 3, 9, 1), (.aload_n 0, 1, 0, 0), (.getfield 65, 3, 9, 8), (.getfield 192, 3, 7, 4), (.iload_n 1, 1, 0, 0), (.aaload, 1, 0, 0)] (by decide +kernel) (Nat.zero_le _) (Nat.zero_le _) (fun K R hK hR => ?_)
  simp only [Nat.reduceEqDiff, false_or, or_false, or_true, reduceIte, ↓rx_aaload, ↓rx_aload_n0, ↓rx_getfield, ↓rx_iload_n1, ↓rx_nil, ↓ry_fvs, ↓ry_fvz, ↓ry_li0s, ↓ry_li0z, ↓ry_lr0s, ↓ry_lr0z, ↓ry_obu, ↓ry_r1, ↓ry_ri, true_and, true_or, ↓rh_ob hob, dk_fs, hmd, ↓rh_ob hsc, sm_fs, ↓rh_ra c4, va_rfs, rz_set, rz_nol, rz_clr, List.set_cons_zero, List.set_cons_succ, rz_tr, Nat.reduceAdd, Int.reduceAdd, Int.reduceToNat, Int.reduceSub, Int.reduceNeg, Int.cast_ofNat_Int]
  rw [nI_clamp (by omega)]
  refine ⟨vp_in_nI (by omega) (by decide), hK _ _ _ _ ?_⟩
  refine ru_cV (As := [.ref (ma + (7 + 2 * (120 + s)))]) (b := z + 2) (S := []) l_Desk_171 (by decide +kernel) rfl hw.1 rfl (Nat.le_of_ble_eq_true rfl) (Nat.zero_le _) (Nat.zero_le _) (c_Word_copy hw wi (by omega)) (fun r G' hr => ?_)
  obtain ⟨rfl, rfl⟩ := hr
  have hwl := wi.2.2.1
  rw [if_pos (by omega)]
  simp only [Option.toList, List.nil_append]
  have hd := dk_put (xs := f.getD []) h ⟨by omega, wi.2.2.2.1, by decide⟩
  have hob2 : wd_put G (z + 2) 257 (f.getD []) z = some (.inr (9, dk_fs z V.2.2.2)) := (hd.1 0 (by decide)).1
  have hsc2 : wd_put G (z + 2) 257 (f.getD []) ma = some (.inr (7, sm_fs ma I P)) := by rw [wd_pout (by omega) (by omega)]; exact hsc
  have c32 : wd_put G (z + 2) 257 (f.getD []) (ma + 3) = some (.inl (3, 40, .inl (A 1))) := by rw [wd_pout (by omega) (by omega)]; exact c3
  refine ru_blk' [(.aload_n 0, 1, 0, 0), (.getfield 65, 3, 9, 8), (.getfield 193, 3, 7, 3), (.iload_n 1, 1, 0, 0), (.baload, 1, 0, 0), (.ireturn, 1, 0, 0)] (by decide +kernel) (Nat.zero_le _) (Nat.zero_le _) (fun K R hK hR => ?_)
  simp only [Nat.reduceEqDiff, false_or, or_false, or_true, reduceIte, ↓rx_aload_n0, ↓rx_baload, ↓rx_getfield, ↓rx_iload_n1, ↓rx_ireturn, ↓rx_nil, ↓ry_fvs, ↓ry_fvz, ↓ry_iau, ↓ry_li0s, ↓ry_li0z, ↓ry_lr0s, ↓ry_lr0z, ↓ry_obu, ↓ry_r1, ↓ry_ri, true_and, true_or, ↓rh_ob hob2, dk_fs, hmd, ↓rh_ob hsc2, sm_fs, ↓rh_ia c32, rz_set, rz_nol, rz_clr, List.set_cons_zero, List.set_cons_succ, rz_tr, Nat.reduceAdd, Int.reduceAdd, Int.reduceToNat, Int.reduceSub, Int.reduceNeg, Int.cast_ofNat_Int]
  rw [nI_clamp (by omega), hf1]
  exact ⟨vp_in_nI (by omega) (by decide), hR _ _ rz_b_nb ⟨⟨rfl, rfl⟩, rfl, _, ⟨n0, Or.inr ⟨s, f, hf, rfl, rfl, rfl⟩⟩, hd.1, hd.2⟩⟩
