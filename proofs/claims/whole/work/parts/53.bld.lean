/-! WriterDesk$Builder: addSet -/
set_option maxRecDepth 100000 in
set_option maxHeartbeats 4000000 in
theorem c_Bld_addSet {w : rz_w} {d : Nat} {G : rz_G} {a : Nat} {I : Nat → Int32} {A : Nat → Nat → Int32} {J : Nat → Nat → Int64} {X : Nat → List Nat} {P : Nat → Nat} {Im : Nat → Int32} {Am : Nat → Nat → Int32} {Jm : Nat → Nat → Int64} {Xm : Nat → List Nat} {Pm : Nat → Nat} {Is : Nat → Int32} {As : Nat → Nat → Int32} {Js : Nat → Nat → Int64} {Xs : Nat → List Nat} {Ps : Nat → Nat} {am : Nat} {em : mv_T} {ec : Nat} {T : bf_T} {TS : List bf_T} (hm : mv_is Im Am Xm em ec) (hs : mv_set Im Am em ec) (hap : am + 327 ≤ a ∨ a + 588 ≤ am) (hfit : ∀ q, q < 6 → T.1.testBit q = true → (T.2 q).length + (ps_fin em q).length ≤ 176) (hT : bf_st I X T) (hTS : bs_st A X TS) (hI : Is 0 = nI TS.length) (hxs : sm_xo Xs) :
    rz_C w (d + 2) 0 0 y_Bld_addSet m_Bld_addSet [.ref a, .ref am] (sm_put (mc_put (bo_put G a I A J X P) (a + 1) Im Am Jm Xm Pm) am Is As Js Xs Ps) (fun r G' => (TS.length = 40 ∧ r = some (.int (-1)) ∧ G' = (sm_put (mc_put (bo_put G a I A J X P) (a + 1) Im Am Jm Xm Pm) am Is As Js Xs Ps)) ∨ (TS.length < 40 ∧ r = some (.int (nI TS.length)) ∧ ∃ A' X' As' Xs', G' = (sm_put (mc_put (bo_put G a I A' J X' P) (a + 1) Im Am Jm Xm Pm) am (upd Is 0 (nI (TS.length + 1))) As' Js Xs' Ps) ∧ bs_st A' X' (TS ++ [T]) ∧ bf_st I X' T ∧ (∀ k, k ≠ 3 → A' k = A k) ∧ (∀ j, j < 15 → X' j = X j) ∧ sm_xo Xs' ∧ (∀ i, As' 0 i = if TS.length * 3 ≤ i ∧ i < TS.length * 3 + 3 then -1 else As 0 i) ∧ As' 1 = upd (As 1) TS.length (rz_b (ad_fw em ec T).isSome) ∧ ∀ j, Xs' j = if j = 121 + TS.length then (ad_fw em ec T).getD [] else if 1 + TS.length * 3 ≤ j ∧ j < 1 + TS.length * 3 + 3 then [] else Xs j)) := by
  obtain ⟨s0, s1, s2, s3⟩ := id hT
  have h40 := hTS.1
  refine rz_enter' [some (.ref a), some (.ref am), none, none] (by decide +kernel) rfl rfl (Nat.le_of_ble_eq_true rfl) rfl ?_
  refine rz_blk' [(.aload_n 1, 1, 0, 0), (.getfield 56, 3, 7, 0), (.bipush 40, 2, 0, 0), (.if_icmp .lt 5, 3, 0, 0), (.iconst (-1), 1, 0, 0), (.ireturn, 1, 0, 0)] (by decide +kernel) (Nat.le_refl _) (Nat.le_refl _) (fun K R hK hR => ?_)
  simp only [rw_b40, rw_cm1, ↓rx_aload_n1, ↓rx_bipush, ↓rx_getfield, ↓rx_iconst, ↓rx_if_icmp_lt, ↓rx_ireturn, ↓rx_nil, ↓ry_fvs, ↓ry_fvz, ↓ry_i2, ↓ry_lr0s, ↓ry_lr0z, ↓ry_obu, ↓ry_r1, ↓sm_ob, ↓sm_i1, ↓sm_n1, ↓sm_r2, ↓sm_i3, ↓sm_n3, ↓sm_r4, hI, rz_set, rz_nol, rz_clr, List.set_cons_zero, List.set_cons_succ, rz_tr, Nat.reduceAdd, Int.reduceAdd, Int.reduceToNat, Int.reduceSub, Int.reduceNeg, Int.cast_ofNat_Int]
  rw [nI_ltI (by omega) (by omega)]
  refine ⟨fun c => hK _ _ _ _ ?_, fun c => hR _ _ (rz_nb_i (by decide)) (Or.inl ⟨by omega, rfl, rfl⟩)⟩
  refine rz_blk' [(.aload_n 1, 1, 0, 0)] (by decide +kernel) (Nat.le_refl _) (Nat.le_refl _) (fun K R hK hR => ?_)
  simp only [↓rx_aload_n1, ↓rx_nil, ↓ry_lr0s, ↓ry_lr0z, ↓sm_ob, ↓sm_i1, ↓sm_n1, ↓sm_r2, ↓sm_i3, ↓sm_n3, ↓sm_r4, rz_set, rz_nol, rz_clr, List.set_cons_zero, List.set_cons_succ, rz_tr, Nat.reduceAdd, Int.reduceAdd, Int.reduceToNat, Int.reduceSub, Int.reduceNeg, Int.cast_ofNat_Int]
  refine hK _ _ _ _ ?_
  refine rz_cV (As := []) (b := am) (S := []) l_Bld_71 (by decide +kernel) rfl sm_at0 rfl (Nat.le_of_ble_eq_true rfl) (Nat.le_refl _) (Nat.le_refl _) (c_Small_addState hI c hxs) (fun r G' hr => ?_)
  obtain ⟨rfl, As2, Xs2, rfl, e1, e2, e3⟩ := hr
  simp only [Option.toList, List.cons_append, List.nil_append]
  have hob : (sm_put (mc_put (bo_put G a I A J X P) (a + 1) Im Am Jm Xm Pm) am (upd Is 0 (nI (TS.length + 1))) As2 Js Xs2 Ps) a = some (.inr (8, bo_fs a I P)) := by rw [sm_out (by omega)]; exact bl_at0
  have h79 : (sm_put (mc_put (bo_put G a I A J X P) (a + 1) Im Am Jm Xm Pm) am (upd Is 0 (nI (TS.length + 1))) As2 Js Xs2 Ps) (a + 79) = some (.inl (0, 40, .inl (A 3))) := by rw [sm_out (by omega)]; exact bl_c79
  refine rz_blk' [(.istore_n 2, 1, 0, 0)] (by decide +kernel) (Nat.le_refl _) (Nat.le_refl _) (fun K R hK hR => ?_)
  simp only [↓rx_istore_n2, ↓rx_nil, ↓ry_i1, ↓sm_ob, ↓sm_i1, ↓sm_n1, ↓sm_r2, ↓sm_i3, ↓sm_n3, ↓sm_r4, rz_set, rz_nol, rz_clr, List.set_cons_zero, List.set_cons_succ, rz_tr, Nat.reduceAdd, Int.reduceAdd, Int.reduceToNat, Int.reduceSub, Int.reduceNeg, Int.cast_ofNat_Int]
  refine hK _ _ _ _ ?_
  refine rz_blk' [(.aload_n 0, 1, 0, 0), (.getfield 44, 3, 8, 8), (.iload_n 2, 1, 0, 0), (.aload_n 0, 1, 0, 0), (.getfield 90, 3, 8, 10), (.iastore, 1, 0, 0)] (by decide +kernel) (Nat.le_refl _) (Nat.le_refl _) (fun K R hK hR => ?_)
  simp only [↓rx_aload_n0, ↓rx_getfield, ↓rx_iastore, ↓rx_iload_n2, ↓rx_nil, ↓ry_fvs, ↓ry_fvz, ↓ry_iau, ↓ry_li0s, ↓ry_li0z, ↓ry_lr0s, ↓ry_lr0z, ↓ry_obu, ↓ry_r1, ↓ry_rii, true_and, ↓sm_ob, ↓sm_i1, ↓sm_n1, ↓sm_r2, ↓sm_i3, ↓sm_n3, ↓sm_r4, ↓rh_ob hob, ↓rh_ia h79, s0, rz_set, rz_nol, rz_clr, List.set_cons_zero, List.set_cons_succ, rz_tr, Nat.reduceAdd, Int.reduceAdd, Int.reduceToNat, Int.reduceSub, Int.reduceNeg, Int.cast_ofNat_Int]
  rw [nI_clamp (by omega), sm_rup (by omega), bl_a79]
  refine ⟨vp_in_nI (by omega) (by decide), hK _ _ _ _ ?_⟩
  generalize hA2 : va_up A 3 _ = A2
  have hxs2 : sm_xo Xs2 := fun j hj => by
    rw [e3 j]; split
    · exact wd_ok_nil (by decide)
    · exact hxs j hj
  refine rz_blk' [(.iconst 0, 1, 0, 0), (.istore_n 3, 1, 0, 0)] (by decide +kernel) (Nat.le_refl _) (Nat.le_refl _) (fun K R hK hR => ?_)
  simp only [rw_c0, ↓rx_iconst, ↓rx_istore_n3, ↓rx_nil, ↓ry_i1, ↓sm_ob, ↓sm_i1, ↓sm_n1, ↓sm_r2, ↓sm_i3, ↓sm_n3, ↓sm_r4, rz_set, rz_nol, rz_clr, List.set_cons_zero, List.set_cons_succ, rz_tr, Nat.reduceAdd, Int.reduceAdd, Int.reduceToNat, Int.reduceSub, Int.reduceNeg, Int.cast_ofNat_Int]
  refine hK _ _ _ _ (ad_l hm hs hap c hfit 6 0 none X As2 Xs2 rfl hT hxs2 (by rw [e1, pk_us]; rfl) (by rw [e3, if_pos (Or.inl rfl)]; rfl) (fun X' As' Xs' t1 t2 t3 t4 t5 t6 t7 t8 t9 => Or.inr ⟨c, rfl, A2, X', As', Xs', rfl, ?_, t1, fun k hk => by rw [← hA2, va_up_ne _ _ hk], t3, t2, fun i => by rw [t6]; exact e2 i, ?_, fun j => ?_⟩))
  · refine ⟨by simp; omega, fun i S hi => ?_⟩
    by_cases ci : i < TS.length
    · rw [List.getElem?_append_left ci] at hi
      obtain ⟨u1, u2, u3⟩ := hTS.2 i S hi
      refine ⟨by rw [← hA2, va_up_self, pk_un (by omega)]; exact u1, u2, fun q hq hb => ?_⟩
      rw [t5 _ (by omega) (fun p _ _ => by omega)]; exact u3 q hq hb
    · have hi2 : i = TS.length := by
        have := (List.getElem?_eq_some_iff.mp hi).1
        simp at this; omega
      subst hi2
      simp at hi
      subst hi
      exact ⟨by rw [← hA2, va_up_self, pk_us], s1, fun q hq hb => t4 q (by omega) hq hb⟩
  · rw [t7, e1]
    funext j
    simp only [upd, ad_fw]
    split <;> rfl
  · by_cases cj : j = 121 + TS.length
    · subst cj; rw [if_pos rfl, t9]; rfl
    · rw [if_neg cj, t8 j cj, e3 j]
      by_cases c2 : 1 + TS.length * 3 ≤ j ∧ j < 1 + TS.length * 3 + 3
      · rw [if_pos (Or.inr c2), if_pos c2]
      · rw [if_neg (by omega), if_neg c2]

