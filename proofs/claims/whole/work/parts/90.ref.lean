/-! the reference: edge -/
set_option maxRecDepth 100000 in
set_option maxHeartbeats 400000 in
theorem c_Mod_edge {w : rz_w} {d : Nat} {G : rz_G} {a : Nat} {I : Nat → Int32} {A : Nat → Nat → Int32} {V : dk_V} (h : rf I A V) (x yf yl yt yn u : Int32) : rz_C w (d + 3) 0 0 y_Mod_edge m_Mod_edge [.ref a, .int x, .int yf, .int yl, .int yt, .int yn, .int u] (re_put G a I A) (rv G a V (fun r V' => ∃ k f l t n, k < 6 ∧ f < (V.1 k).1 ∧ t < (V.1 k).1 ∧ l < 3 ∧ n ≤ 3 ∧ (V.1 k).2.1.length < 24 ∧ x = nI k ∧ yf = nI f ∧ yl = nI l ∧ yt = nI t ∧ yn = nI n ∧ r = some (.int (nI (V.1 k).2.1.length)) ∧ V' = dk_um V k (dk_ae (V.1 k) f l t (wd_told u.toBitVec.toNat n))) (fun c => (c = 1 ∧ dk_no x) ∨ ∃ k, k < 6 ∧ x = nI k ∧ ((c = 2 ∧ ¬ dk_eok (V.1 k) yf yl yt yn) ∨ (c = 3 ∧ dk_eok (V.1 k) yf yl yt yn ∧ 24 ≤ (V.1 k).2.1.length)))) := by
  generalize hQ : (rv G a V (fun r V' => ∃ k f l t n, k < 6 ∧ f < (V.1 k).1 ∧ t < (V.1 k).1 ∧ l < 3 ∧ n ≤ 3 ∧ (V.1 k).2.1.length < 24 ∧ x = nI k ∧ yf = nI f ∧ yl = nI l ∧ yt = nI t ∧ yn = nI n ∧ r = some (.int (nI (V.1 k).2.1.length)) ∧ V' = dk_um V k (dk_ae (V.1 k) f l t (wd_told u.toBitVec.toNat n))) (fun c => (c = 1 ∧ dk_no x) ∨ ∃ k, k < 6 ∧ x = nI k ∧ ((c = 2 ∧ ¬ dk_eok (V.1 k) yf yl yt yn) ∨ (c = 3 ∧ dk_eok (V.1 k) yf yl yt yn ∧ 24 ≤ (V.1 k).2.1.length)))) = Q
  refine rz_enter' [some (.ref a), some (.int x), some (.int yf), some (.int yl), some (.int yt), some (.int yn), some (.int u), none, none] (by decide +kernel) rfl rfl (Nat.le_of_ble_eq_true rfl) rfl ?_
  refine rz_blk' [(.aload_n 0, 1, 0, 0), (.iload_n 1, 1, 0, 0)] (by decide +kernel) (Nat.le_refl _) (Nat.le_refl _) (fun K R hK hR => ?_)
  simp only [↓rx_aload_n0, ↓rx_iload_n1, ↓rx_nil, ↓ry_li0s, ↓ry_li0z, ↓ry_lr0s, ↓ry_lr0z, rz_set, rz_nol, rz_clr, List.set_cons_zero, List.set_cons_succ, rz_tr, Nat.reduceAdd, Int.reduceAdd, Int.reduceToNat, Int.reduceSub, Int.reduceNeg, Int.cast_ofNat_Int]
  try simp (disch := omega) only [pk_us, pk_un, va_up_self, va_up_ne, nI_add, pk_mul, nI_clamp, vp_inT, nI_ltI, nI_leI, nI_eqI, pk_sub, true_and, and_true]
  refine hK _ _ _ _ ?_
  refine rz_cV (As := [.int x]) (b := a) (S := []) l_Mod_214 (by decide +kernel) rfl re_at0 rfl (Nat.le_of_ble_eq_true rfl) (Nat.le_refl _) (Nat.le_refl _) (c_Mod_isMachine _) (fun r G' hr => ?_)
  rcases hr with ⟨k, hk, rfl, rfl, hg⟩ | ⟨hno, rfl, hg⟩
  rotate_left
  · subst hg
    simp only [Option.toList, List.cons_append, List.nil_append]
    refine rz_blk' [(.ifCond .ne 5, 3, 0, 0)] (by decide +kernel) (Nat.le_refl _) (Nat.le_refl _) (fun K R hK hR => ?_)
    simp only [↓rx_ifCond_ne, ↓rx_nil, ↓ry_i1, rz_set, rz_nol, rz_clr, List.set_cons_zero, List.set_cons_succ, rz_tr, Nat.reduceAdd, Int.reduceAdd, Int.reduceToNat, Int.reduceSub, Int.reduceNeg, Int.cast_ofNat_Int]
    try simp (disch := omega) only [pk_us, pk_un, va_up_self, va_up_ne, nI_add, pk_mul, nI_clamp, vp_inT, nI_ltI, nI_leI, nI_eqI, pk_sub, true_and, and_true]
    refine ⟨fun q1 => absurd rfl q1, fun q1 => hK _ _ _ _ ?_⟩
    refine rz_blk' [(.iconst 0, 1, 0, 0), (.ireturn, 1, 0, 0)] (by decide +kernel) (Nat.le_refl _) (Nat.le_refl _) (fun K R hK hR => ?_)
    simp only [rw_c0, ↓rx_iconst, ↓rx_ireturn, ↓rx_nil, rz_set, rz_nol, rz_clr, List.set_cons_zero, List.set_cons_succ, rz_tr, Nat.reduceAdd, Int.reduceAdd, Int.reduceToNat, Int.reduceSub, Int.reduceNeg, Int.cast_ofNat_Int]
    try simp (disch := omega) only [pk_us, pk_un, va_up_self, va_up_ne, nI_add, pk_mul, nI_clamp, vp_inT, nI_ltI, nI_leI, nI_eqI, pk_sub, true_and, and_true]
    exact hR _ _ (rz_nb_i (by decide)) (by rw [← hQ]; exact rv_e h 1 (by decide) (by decide) (Or.inl ⟨rfl, hno⟩))
  subst hg
  simp only [Option.toList, List.cons_append, List.nil_append]
  have hnk : ¬ dk_no (nI k) := fun q => q k hk rfl
  have hm := h.1 k hk
  obtain ⟨m1, m2, m3, m4, m5, m6, m7, m8, m9, m10, m11⟩ := id hm
  have hgo : ∀ (f l t n : Nat), f < (V.1 k).1 → l < 3 → t < (V.1 k).1 → n ≤ 3 → yf = nI f → yl = nI l → yt = nI t → yn = nI n → (V.1 k).2.1.length < 24 → rz_T w (d + 3) 0 0 m_Mod_edge 0 0 85 [some (.ref a), some (.int (nI k)), some (.int (nI f)), some (.int (nI l)), some (.int (nI t)), some (.int (nI n)), some (.int u), none, none] [] (re_put G a (upd I 0 (nI 0)) A) Q := by
    intro f l t n hf1 hl1 ht1 hn1 hyf hyl hyt hyn h24
    refine rz_blk' [(.bipush 24, 2, 0, 0), (.iload_n 1, 1, 0, 0), (.imul, 1, 0, 0), (.aload_n 0, 1, 0, 0), (.getfield 13, 3, 10, 2), (.iload_n 1, 1, 0, 0), (.iaload, 1, 0, 0), (.iadd, 1, 0, 0), (.istore 7, 2, 0, 0)] (by decide +kernel) (Nat.le_refl _) (Nat.le_refl _) (fun K R hK hR => ?_)
    simp only [rw_b24, ↓rx_aload_n0, ↓rx_bipush, ↓rx_getfield, ↓rx_iadd, ↓rx_iaload, ↓rx_iload_n1, ↓rx_imul, ↓rx_istore, ↓rx_nil, ↓ry_i1, ↓ry_i2, ↓ry_iau, ↓ry_li0s, ↓ry_li0z, ↓ry_lr0s, ↓ry_lr0z, ↓ry_obu, ↓ry_r1, ↓ry_ri, true_and, re_a2, ↓re_F2, ↓re_i2, ↓re_ob, m4, rz_set, rz_nol, rz_clr, List.set_cons_zero, List.set_cons_succ, rz_tr, Nat.reduceAdd, Int.reduceAdd, Int.reduceToNat, Int.reduceSub, Int.reduceNeg, Int.cast_ofNat_Int]
    try simp (disch := omega) only [m4, pk_us, pk_un, va_up_self, va_up_ne, nI_add, pk_mul, nI_clamp, vp_inT, nI_ltI, nI_leI, nI_eqI, pk_sub, true_and, and_true]
    refine hK _ _ _ _ ?_
    refine rz_blk' [(.aload_n 0, 1, 0, 0), (.getfield 16, 3, 10, 3), (.iload 7, 2, 0, 0), (.iload_n 2, 1, 0, 0), (.iastore, 1, 0, 0)] (by decide +kernel) (Nat.le_refl _) (Nat.le_refl _) (fun K R hK hR => ?_)
    simp only [↓rx_aload_n0, ↓rx_getfield, ↓rx_iastore, ↓rx_iload, ↓rx_iload_n2, ↓rx_nil, ↓ry_iau, ↓ry_li0s, ↓ry_li0z, ↓ry_lr0s, ↓ry_lr0z, ↓ry_obu, ↓ry_r1, ↓ry_rii, true_and, re_a3, ↓re_F3, ↓re_i3, ↓re_ob, m4, rz_set, rz_nol, rz_clr, List.set_cons_zero, List.set_cons_succ, rz_tr, Nat.reduceAdd, Int.reduceAdd, Int.reduceToNat, Int.reduceSub, Int.reduceNeg, Int.cast_ofNat_Int]
    try simp (disch := omega) only [m4, pk_us, pk_un, va_up_self, va_up_ne, nI_add, pk_mul, nI_clamp, vp_inT, nI_ltI, nI_leI, nI_eqI, pk_sub, true_and, and_true]
    refine hK _ _ _ _ ?_
    refine rz_blk' [(.aload_n 0, 1, 0, 0), (.getfield 19, 3, 10, 4), (.iload 7, 2, 0, 0), (.iload_n 3, 1, 0, 0), (.iastore, 1, 0, 0)] (by decide +kernel) (Nat.le_refl _) (Nat.le_refl _) (fun K R hK hR => ?_)
    simp only [↓rx_aload_n0, ↓rx_getfield, ↓rx_iastore, ↓rx_iload, ↓rx_iload_n3, ↓rx_nil, ↓ry_iau, ↓ry_li0s, ↓ry_li0z, ↓ry_lr0s, ↓ry_lr0z, ↓ry_obu, ↓ry_r1, ↓ry_rii, true_and, re_a4, ↓re_F4, ↓re_i4, ↓re_ob, m4, rz_set, rz_nol, rz_clr, List.set_cons_zero, List.set_cons_succ, rz_tr, Nat.reduceAdd, Int.reduceAdd, Int.reduceToNat, Int.reduceSub, Int.reduceNeg, Int.cast_ofNat_Int]
    try simp (disch := omega) only [m4, pk_us, pk_un, va_up_self, va_up_ne, nI_add, pk_mul, nI_clamp, vp_inT, nI_ltI, nI_leI, nI_eqI, pk_sub, true_and, and_true]
    refine hK _ _ _ _ ?_
    refine rz_blk' [(.aload_n 0, 1, 0, 0), (.getfield 22, 3, 10, 5), (.iload 7, 2, 0, 0), (.iload 4, 2, 0, 0), (.iastore, 1, 0, 0)] (by decide +kernel) (Nat.le_refl _) (Nat.le_refl _) (fun K R hK hR => ?_)
    simp only [↓rx_aload_n0, ↓rx_getfield, ↓rx_iastore, ↓rx_iload, ↓rx_nil, ↓ry_iau, ↓ry_li0s, ↓ry_li0z, ↓ry_lr0s, ↓ry_lr0z, ↓ry_obu, ↓ry_r1, ↓ry_rii, true_and, re_a5, ↓re_F5, ↓re_i5, ↓re_ob, m4, rz_set, rz_nol, rz_clr, List.set_cons_zero, List.set_cons_succ, rz_tr, Nat.reduceAdd, Int.reduceAdd, Int.reduceToNat, Int.reduceSub, Int.reduceNeg, Int.cast_ofNat_Int]
    try simp (disch := omega) only [m4, pk_us, pk_un, va_up_self, va_up_ne, nI_add, pk_mul, nI_clamp, vp_inT, nI_ltI, nI_leI, nI_eqI, pk_sub, true_and, and_true]
    refine hK _ _ _ _ ?_
    refine rz_blk' [(.aload_n 0, 1, 0, 0), (.getfield 25, 3, 10, 6), (.iload 7, 2, 0, 0), (.iload 5, 2, 0, 0), (.iastore, 1, 0, 0)] (by decide +kernel) (Nat.le_refl _) (Nat.le_refl _) (fun K R hK hR => ?_)
    simp only [↓rx_aload_n0, ↓rx_getfield, ↓rx_iastore, ↓rx_iload, ↓rx_nil, ↓ry_iau, ↓ry_li0s, ↓ry_li0z, ↓ry_lr0s, ↓ry_lr0z, ↓ry_obu, ↓ry_r1, ↓ry_rii, true_and, re_a6, ↓re_F6, ↓re_i6, ↓re_ob, m4, rz_set, rz_nol, rz_clr, List.set_cons_zero, List.set_cons_succ, rz_tr, Nat.reduceAdd, Int.reduceAdd, Int.reduceToNat, Int.reduceSub, Int.reduceNeg, Int.cast_ofNat_Int]
    try simp (disch := omega) only [m4, pk_us, pk_un, va_up_self, va_up_ne, nI_add, pk_mul, nI_clamp, vp_inT, nI_ltI, nI_leI, nI_eqI, pk_sub, true_and, and_true]
    refine hK _ _ _ _ ?_
    refine rz_blk' [(.iconst 0, 1, 0, 0), (.istore 8, 2, 0, 0)] (by decide +kernel) (Nat.le_refl _) (Nat.le_refl _) (fun K R hK hR => ?_)
    simp only [rw_c0, ↓rx_iconst, ↓rx_istore, ↓rx_nil, ↓ry_i1, m4, rz_set, rz_nol, rz_clr, List.set_cons_zero, List.set_cons_succ, rz_tr, Nat.reduceAdd, Int.reduceAdd, Int.reduceToNat, Int.reduceSub, Int.reduceNeg, Int.cast_ofNat_Int]
    try simp (disch := omega) only [m4, pk_us, pk_un, va_up_self, va_up_ne, nI_add, pk_mul, nI_clamp, vp_inT, nI_ltI, nI_leI, nI_eqI, pk_sub, true_and, and_true]
    refine hK _ _ _ _ ?_
    generalize hE : 24 * k + (V.1 k).2.1.length = E
    generalize hB : va_up (va_up (va_up (va_up A 3 _) 4 _) 5 _) 6 _ = B
    have lp : ∀ (j i : Nat) (A1 : Nat → Nat → Int32), i + j = 3 → (∀ f, f ≠ 7 → A1 f = B f) → (∀ x, (x < 3 * E ∨ 3 * E + i ≤ x) → A1 7 x = B 7 x) → (∀ sx, sx < i → A1 7 (3 * E + sx) = nI (u.toBitVec.toNat / 2 ^ (3 * sx) % 8)) → rz_T w (d + 3) 0 0 m_Mod_edge 0 0 135 [some (.ref a), some (.int (nI k)), some (.int (nI f)), some (.int (nI l)), some (.int (nI t)), some (.int (nI n)), some (.int u), some (.int (nI E)), some (.int (nI i))] [] (re_put G a (upd I 0 (nI 0)) A1) Q := by
      intro j
      induction j with
      | zero =>
        intro i A1 hij hf hx hs
        have hi : i = 3 := by omega
        subst hi
        have hB2 : A1 2 = A 2 := by rw [hf 2 (by decide), ← hB]; simp [va_up]
        refine rz_blk' [(.iload 8, 2, 0, 0), (.iconst 3, 1, 0, 0), (.if_icmp .ge 31, 3, 0, 0)] (by decide +kernel) (Nat.le_refl _) (Nat.le_refl _) (fun K R hK hR => ?_)
        simp only [rw_c3, ↓rx_iconst, ↓rx_if_icmp_ge, ↓rx_iload, ↓rx_nil, ↓ry_i2, ↓ry_li0s, ↓ry_li0z, hB2, m4, rz_set, rz_nol, rz_clr, List.set_cons_zero, List.set_cons_succ, rz_tr, Nat.reduceAdd, Int.reduceAdd, Int.reduceToNat, Int.reduceSub, Int.reduceNeg, Int.cast_ofNat_Int]
        try simp (disch := omega) only [hB2, m4, pk_us, pk_un, va_up_self, va_up_ne, nI_add, pk_mul, nI_clamp, vp_inT, nI_ltI, nI_leI, nI_eqI, pk_sub, true_and, and_true]
        refine ⟨fun q31 => hK _ _ _ _ ?_, fun q31 => by omega⟩
        refine rz_blk' [(.aload_n 0, 1, 0, 0), (.getfield 13, 3, 10, 2), (.iload_n 1, 1, 0, 0), (.dup2, 1, 0, 0), (.iaload, 1, 0, 0), (.iconst 1, 1, 0, 0), (.iadd, 1, 0, 0), (.iastore, 1, 0, 0)] (by decide +kernel) (Nat.le_refl _) (Nat.le_refl _) (fun K R hK hR => ?_)
        simp only [rw_c1, ↓rx_aload_n0, ↓rx_dup2, ↓rx_getfield, ↓rx_iadd, ↓rx_iaload, ↓rx_iastore, ↓rx_iconst, ↓rx_iload_n1, ↓rx_nil, ↓ry_i2, ↓ry_iau, ↓ry_li0s, ↓ry_li0z, ↓ry_lr0s, ↓ry_lr0z, ↓ry_obu, ↓ry_r1, ↓ry_ri, ↓ry_rii, ↓ry_v2, true_and, re_a2, ↓re_F2, ↓re_i2, ↓re_ob, hB2, m4, rz_set, rz_nol, rz_clr, List.set_cons_zero, List.set_cons_succ, rz_tr, Nat.reduceAdd, Int.reduceAdd, Int.reduceToNat, Int.reduceSub, Int.reduceNeg, Int.cast_ofNat_Int]
        try simp (disch := omega) only [hB2, m4, pk_us, pk_un, va_up_self, va_up_ne, nI_add, pk_mul, nI_clamp, vp_inT, nI_ltI, nI_leI, nI_eqI, pk_sub, true_and, and_true]
        refine hK _ _ _ _ ?_
        refine rz_blk' [(.aload_n 0, 1, 0, 0), (.getfield 13, 3, 10, 2), (.iload_n 1, 1, 0, 0), (.iaload, 1, 0, 0), (.iconst 1, 1, 0, 0), (.isub, 1, 0, 0), (.ireturn, 1, 0, 0)] (by decide +kernel) (Nat.le_refl _) (Nat.le_refl _) (fun K R hK hR => ?_)
        simp only [rw_c1, ↓rx_aload_n0, ↓rx_getfield, ↓rx_iaload, ↓rx_iconst, ↓rx_iload_n1, ↓rx_ireturn, ↓rx_isub, ↓rx_nil, ↓ry_i2, ↓ry_iau, ↓ry_li0s, ↓ry_li0z, ↓ry_lr0s, ↓ry_lr0z, ↓ry_obu, ↓ry_r1, ↓ry_ri, true_and, re_a2, ↓re_F2, ↓re_i2, ↓re_ob, hB2, m4, rz_set, rz_nol, rz_clr, List.set_cons_zero, List.set_cons_succ, rz_tr, Nat.reduceAdd, Int.reduceAdd, Int.reduceToNat, Int.reduceSub, Int.reduceNeg, Int.cast_ofNat_Int]
        try simp (disch := omega) only [hB2, m4, pk_us, pk_un, va_up_self, va_up_ne, nI_add, pk_mul, nI_clamp, vp_inT, nI_ltI, nI_leI, nI_eqI, pk_sub, true_and, and_true]
        refine hR _ _ (rz_nb_i (by decide)) ?_
        rw [← hQ]
        have hB3 : B 3 = upd (A 3) E (nI f) := by rw [← hB]; simp [va_up]
        have hB4 : B 4 = upd (A 4) E (nI l) := by rw [← hB]; simp [va_up]
        have hB5 : B 5 = upd (A 5) E (nI t) := by rw [← hB]; simp [va_up]
        have hB6 : B 6 = upd (A 6) E (nI n) := by rw [← hB]; simp [va_up]
        have hBo : ∀ j, (j < 3 ∨ 6 < j) → B j = A j := fun j hj => by
          rw [← hB, va_up_ne _ _ (by omega), va_up_ne _ _ (by omega), va_up_ne _ _ (by omega), va_up_ne _ _ (by omega)]
        refine rv_f pk_us (rf_um h (k := k) (m := dk_ae (V.1 k) f l t (wd_told u.toBitVec.toNat n)) (fun j hj => pk_un hj) (fun j x ho => ?_) ⟨?_, m2, m3, ?_, ?_, fun e he => ?_, fun p hp => ?_, m8, ?_, ?_, fun e he => ?_, m11.2.1, m11.2.2.1, m11.2.2.2⟩) ⟨k, f, l, t, n, hk, hf1, ht1, hl1, hn1, h24, rfl, hyf, hyl, hyt, hyn, ?_, rfl⟩
        · by_cases c2 : j = 2
          · subst c2; rw [va_up_self, pk_un (by unfold re_own at ho; omega)]
          rw [va_up_ne _ _ c2]
          by_cases c : j = 7
          · subst c; rw [hx x (by unfold re_own at ho; omega), hBo 7 (by omega)]
          · rw [hf j c]
            by_cases c3 : j = 3
            · subst c3; rw [hB3, pk_un (by unfold re_own at ho; omega)]
            by_cases c4 : j = 4
            · subst c4; rw [hB4, pk_un (by unfold re_own at ho; omega)]
            by_cases c5 : j = 5
            · subst c5; rw [hB5, pk_un (by unfold re_own at ho; omega)]
            by_cases c6 : j = 6
            · subst c6; rw [hB6, pk_un (by unfold re_own at ho; omega)]
            rw [hBo j (by omega)]
        · rw [va_up_ne _ _ (by decide), hf 1 (by decide), hBo 1 (by decide)]; exact m1
        · rw [va_up_self, pk_us]; simp [dk_ae]
        · simp [dk_ae]; omega
        · rw [va_up_ne _ _ (by decide), va_up_ne _ _ (by decide), va_up_ne _ _ (by decide), va_up_ne _ _ (by decide), va_up_ne _ _ (by decide), hf 3 (by decide), hf 4 (by decide), hf 5 (by decide), hf 6 (by decide), hB3, hB4, hB5, hB6]
          have he2 : e < (V.1 k).2.1.length + 1 := by simpa [dk_ae] using he
          by_cases c : e < (V.1 k).2.1.length
          · have e1 : (dk_ae (V.1 k) f l t (wd_told u.toBitVec.toNat n)).2.1[e] = (V.1 k).2.1[e] := by simp [dk_ae, List.getElem_append_left c]
            rw [e1, pk_un (by omega), pk_un (by omega), pk_un (by omega), pk_un (by omega)]
            obtain ⟨a1, a2, a3, a4, a5, a6⟩ := m6 e c
            refine ⟨a1, a2, a3, a4, a5.k (fun x g1 g2 => ?_), a6⟩
            have l3 := (m11.1 e c).1
            rw [mv_e_get c] at l3
            rw [hx x (by omega), hBo 7 (by omega)]
          · have c' : e = (V.1 k).2.1.length := by omega
            subst c'
            have e1 : (dk_ae (V.1 k) f l t (wd_told u.toBitVec.toNat n)).2.1[(V.1 k).2.1.length] = (f, l, t, wd_told u.toBitVec.toNat n) := by simp [dk_ae]
            rw [e1, hE, pk_us, pk_us, pk_us, pk_us]
            exact ⟨rfl, rfl, rfl, by rw [wd_told_len], sg_told hn1 hs, hf1, hl1, ht1⟩
        · rw [va_up_ne _ _ (by decide), va_up_ne _ _ (by decide), hf 8 (by decide), hf 9 (by decide), hBo 8 (by decide), hBo 9 (by decide)]
          exact m7 p hp
        · rw [va_up_ne _ _ (by decide), hf 10 (by decide), hBo 10 (by decide)]; exact m9
        · rw [va_up_ne _ _ (by decide), hf 11 (by decide), hBo 11 (by decide)]; exact m10
        · have he2 : e < (V.1 k).2.1.length + 1 := by simpa [dk_ae] using he
          rw [mv_e_get he]
          by_cases c : e < (V.1 k).2.1.length
          · have e1 : (dk_ae (V.1 k) f l t (wd_told u.toBitVec.toNat n)).2.1[e] = (V.1 k).2.1[e] := by simp [dk_ae, List.getElem_append_left c]
            rw [e1]
            have := m11.1 e c
            rw [mv_e_get c] at this
            exact this
          · have c' : e = (V.1 k).2.1.length := by omega
            subst c'
            have e1 : (dk_ae (V.1 k) f l t (wd_told u.toBitVec.toNat n)).2.1[(V.1 k).2.1.length] = (f, l, t, wd_told u.toBitVec.toNat n) := by simp [dk_ae]
            rw [e1]
            exact ⟨by rw [wd_told_len]; exact hn1, wd_told_8 _ _⟩
        · rfl
      | succ j ih =>
        intro i A1 hij hf hx hs
        refine rz_blk' [(.iload 8, 2, 0, 0), (.iconst 3, 1, 0, 0), (.if_icmp .ge 31, 3, 0, 0)] (by decide +kernel) (Nat.le_refl _) (Nat.le_refl _) (fun K R hK hR => ?_)
        simp only [rw_c3, ↓rx_iconst, ↓rx_if_icmp_ge, ↓rx_iload, ↓rx_nil, ↓ry_i2, ↓ry_li0s, ↓ry_li0z, rz_set, rz_nol, rz_clr, List.set_cons_zero, List.set_cons_succ, rz_tr, Nat.reduceAdd, Int.reduceAdd, Int.reduceToNat, Int.reduceSub, Int.reduceNeg, Int.cast_ofNat_Int]
        try simp (disch := omega) only [re_sh, pk_us, pk_un, va_up_self, va_up_ne, nI_add, pk_mul, nI_clamp, vp_inT, nI_ltI, nI_leI, nI_eqI, pk_sub, true_and, and_true]
        refine ⟨fun q32 => by omega, fun q32 => hK _ _ _ _ ?_⟩
        refine rz_blk' [(.aload_n 0, 1, 0, 0), (.getfield 28, 3, 10, 7), (.iconst 3, 1, 0, 0), (.iload 7, 2, 0, 0), (.imul, 1, 0, 0), (.iload 8, 2, 0, 0), (.iadd, 1, 0, 0), (.iload 6, 2, 0, 0), (.iconst 3, 1, 0, 0), (.iload 8, 2, 0, 0), (.imul, 1, 0, 0), (.ishr, 1, 0, 0), (.bipush 7, 2, 0, 0), (.iand, 1, 0, 0), (.iastore, 1, 0, 0)] (by decide +kernel) (Nat.le_refl _) (Nat.le_refl _) (fun K R hK hR => ?_)
        simp only [rw_b7, rw_c3, ↓rx_aload_n0, ↓rx_bipush, ↓rx_getfield, ↓rx_iadd, ↓rx_iand, ↓rx_iastore, ↓rx_iconst, ↓rx_iload, ↓rx_imul, ↓rx_ishr, ↓rx_nil, ↓ry_i2, ↓ry_iau, ↓ry_li0s, ↓ry_li0z, ↓ry_lr0s, ↓ry_lr0z, ↓ry_obu, ↓ry_r1, ↓ry_rii, true_and, re_a7, ↓re_F7, ↓re_i7, ↓re_ob, rz_set, rz_nol, rz_clr, List.set_cons_zero, List.set_cons_succ, rz_tr, Nat.reduceAdd, Int.reduceAdd, Int.reduceToNat, Int.reduceSub, Int.reduceNeg, Int.cast_ofNat_Int]
        try simp (disch := omega) only [re_sh, pk_us, pk_un, va_up_self, va_up_ne, nI_add, pk_mul, nI_clamp, vp_inT, nI_ltI, nI_leI, nI_eqI, pk_sub, true_and, and_true]
        refine hK _ _ _ _ ?_
        refine rz_blk' [(.iinc 8 1, 3, 0, 0)] (by decide +kernel) (Nat.le_refl _) (Nat.le_refl _) (fun K R hK hR => ?_)
        simp only [rw_c1, ↓rx_iinc, ↓rx_nil, ↓ry_li0s, ↓ry_li0z, rz_set, rz_nol, rz_clr, List.set_cons_zero, List.set_cons_succ, rz_tr, Nat.reduceAdd, Int.reduceAdd, Int.reduceToNat, Int.reduceSub, Int.reduceNeg, Int.cast_ofNat_Int]
        try simp (disch := omega) only [re_sh, pk_us, pk_un, va_up_self, va_up_ne, nI_add, pk_mul, nI_clamp, vp_inT, nI_ltI, nI_leI, nI_eqI, pk_sub, true_and, and_true]
        refine hK _ _ _ _ ?_
        refine rz_blk' [(.goto (-31), 3, 0, 0)] (by decide +kernel) (Nat.le_refl _) (Nat.le_refl _) (fun K R hK hR => ?_)
        simp only [↓rx_goto, ↓rx_nil, rz_set, rz_nol, rz_clr, List.set_cons_zero, List.set_cons_succ, rz_tr, Nat.reduceAdd, Int.reduceAdd, Int.reduceToNat, Int.reduceSub, Int.reduceNeg, Int.cast_ofNat_Int]
        try simp (disch := omega) only [re_sh, pk_us, pk_un, va_up_self, va_up_ne, nI_add, pk_mul, nI_clamp, vp_inT, nI_ltI, nI_leI, nI_eqI, pk_sub, true_and, and_true]
        refine hK _ _ _ _ ?_
        refine ih (i + 1) _ (by omega) (fun f hf1 => ?_) (fun x hx1 => ?_) (fun sx hsx => ?_)
        · rw [va_up_ne _ _ hf1]; exact hf f hf1
        · rw [va_up_self, pk_un (by omega)]; exact hx x (by omega)
        · rw [va_up_self]
          by_cases c : sx = i
          · subst c; rw [pk_us]
          · rw [pk_un (by omega)]; exact hs sx (by omega)
    exact lp 3 0 B rfl (fun _ _ => rfl) (fun _ _ => rfl) (fun q hq => absurd hq (Nat.not_lt_zero _))
  have h68 : ∀ (f l t n : Nat), f < (V.1 k).1 → l < 3 → t < (V.1 k).1 → n ≤ 3 → yf = nI f → yl = nI l → yt = nI t → yn = nI n → rz_T w (d + 3) 0 0 m_Mod_edge 0 0 68 [some (.ref a), some (.int (nI k)), some (.int (nI f)), some (.int (nI l)), some (.int (nI t)), some (.int (nI n)), some (.int u), none, none] [] (re_put G a (upd I 0 (nI 0)) A) Q := by
    intro f l t n hf1 hl1 ht1 hn1 hyf hyl hyt hyn
    refine rz_blk' [(.aload_n 0, 1, 0, 0), (.getfield 13, 3, 10, 2), (.iload_n 1, 1, 0, 0), (.iaload, 1, 0, 0), (.bipush 24, 2, 0, 0), (.if_icmp .ne 9, 3, 0, 0)] (by decide +kernel) (Nat.le_refl _) (Nat.le_refl _) (fun K R hK hR => ?_)
    simp only [rw_b24, ↓rx_aload_n0, ↓rx_bipush, ↓rx_getfield, ↓rx_iaload, ↓rx_if_icmp_ne, ↓rx_iload_n1, ↓rx_nil, ↓ry_i2, ↓ry_iau, ↓ry_li0s, ↓ry_li0z, ↓ry_lr0s, ↓ry_lr0z, ↓ry_obu, ↓ry_r1, ↓ry_ri, true_and, re_a2, ↓re_F2, ↓re_i2, ↓re_ob, m4, rz_set, rz_nol, rz_clr, List.set_cons_zero, List.set_cons_succ, rz_tr, Nat.reduceAdd, Int.reduceAdd, Int.reduceToNat, Int.reduceSub, Int.reduceNeg, Int.cast_ofNat_Int]
    try simp (disch := omega) only [m4, pk_us, pk_un, va_up_self, va_up_ne, nI_add, pk_mul, nI_clamp, vp_inT, nI_ltI, nI_leI, nI_eqI, pk_sub, true_and, and_true]
    refine ⟨fun q61 => hK _ _ _ _ ?_, fun q61 => hK _ _ _ _ ?_⟩
    · -- 76 taken
      exact hgo f l t n hf1 hl1 ht1 hn1 hyf hyl hyt hyn (by omega)
    · -- 76 not taken
      refine rz_blk' [(.aload_n 0, 1, 0, 0), (.iconst 3, 1, 0, 0)] (by decide +kernel) (Nat.le_refl _) (Nat.le_refl _) (fun K R hK hR => ?_)
      simp only [rw_c3, ↓rx_aload_n0, ↓rx_iconst, ↓rx_nil, ↓ry_lr0s, ↓ry_lr0z, m4, rz_set, rz_nol, rz_clr, List.set_cons_zero, List.set_cons_succ, rz_tr, Nat.reduceAdd, Int.reduceAdd, Int.reduceToNat, Int.reduceSub, Int.reduceNeg, Int.cast_ofNat_Int]
      try simp (disch := omega) only [m4, pk_us, pk_un, va_up_self, va_up_ne, nI_add, pk_mul, nI_clamp, vp_inT, nI_ltI, nI_leI, nI_eqI, pk_sub, true_and, and_true]
      refine hK _ _ _ _ ?_
      refine rz_cV (As := [.int (nI 3)]) (b := a) (S := []) l_Mod_218 (by decide +kernel) rfl re_at0 rfl (Nat.le_of_ble_eq_true rfl) (Nat.le_refl _) (Nat.le_refl _) (c_Mod_fail _) (fun r G' hr => ?_)
      obtain ⟨rfl, rfl⟩ := hr
      simp only [Option.toList, List.cons_append, List.nil_append]
      refine rz_blk' [(.ireturn, 1, 0, 0)] (by decide +kernel) (Nat.le_refl _) (Nat.le_refl _) (fun K R hK hR => ?_)
      simp only [↓rx_ireturn, ↓rx_nil, m4, rz_set, rz_nol, rz_clr, List.set_cons_zero, List.set_cons_succ, rz_tr, Nat.reduceAdd, Int.reduceAdd, Int.reduceToNat, Int.reduceSub, Int.reduceNeg, Int.cast_ofNat_Int]
      try simp (disch := omega) only [m4, pk_us, pk_un, va_up_self, va_up_ne, nI_add, pk_mul, nI_clamp, vp_inT, nI_ltI, nI_leI, nI_eqI, pk_sub, true_and, and_true]
      refine hR _ _ (rz_nb_i (by decide)) ?_
      rw [← hQ]
      exact rv_e (rf_0 h) 3 (by decide) (by decide) (Or.inr ⟨k, hk, rfl, Or.inr ⟨rfl, ⟨⟨f, hf1, hyf⟩, ⟨t, ht1, hyt⟩, ⟨l, hl1, hyl⟩, n, hn1, hyn⟩, by omega⟩⟩)
  have kf := wi_iff (x := yf) (lo := 0) (hi := (V.1 k).1 - 1) (by decide) (by omega)
  have kt := wi_iff (x := yt) (lo := 0) (hi := (V.1 k).1 - 1) (by decide) (by omega)
  have kl := wi_iff (x := yl) (lo := 0) (hi := 2) (by decide) (by decide)
  have kn := wi_iff (x := yn) (lo := 0) (hi := 3) (by decide) (by decide)
  refine rz_blk' [(.ifCond .ne 5, 3, 0, 0)] (by decide +kernel) (Nat.le_refl _) (Nat.le_refl _) (fun K R hK hR => ?_)
  simp only [↓rx_ifCond_ne, ↓rx_nil, ↓ry_i1, m1, rz_set, rz_nol, rz_clr, List.set_cons_zero, List.set_cons_succ, rz_tr, Nat.reduceAdd, Int.reduceAdd, Int.reduceToNat, Int.reduceSub, Int.reduceNeg, Int.cast_ofNat_Int]
  try simp (disch := omega) only [m1, pk_us, pk_un, va_up_self, va_up_ne, nI_add, pk_mul, nI_clamp, vp_inT, nI_ltI, nI_leI, nI_eqI, pk_sub, true_and, and_true]
  refine ⟨fun q2 => hK _ _ _ _ ?_, fun q2 => absurd q2 (show ¬ rz_b true = 0 by decide)⟩
  refine rz_blk' [(.iload_n 2, 1, 0, 0), (.iconst 0, 1, 0, 0), (.aload_n 0, 1, 0, 0), (.getfield 7, 3, 10, 1), (.iload_n 1, 1, 0, 0), (.iaload, 1, 0, 0), (.iconst 1, 1, 0, 0), (.isub, 1, 0, 0)] (by decide +kernel) (Nat.le_refl _) (Nat.le_refl _) (fun K R hK hR => ?_)
  simp only [rw_c0, rw_c1, ↓rx_aload_n0, ↓rx_getfield, ↓rx_iaload, ↓rx_iconst, ↓rx_iload_n1, ↓rx_iload_n2, ↓rx_isub, ↓rx_nil, ↓ry_i2, ↓ry_iau, ↓ry_li0s, ↓ry_li0z, ↓ry_lr0s, ↓ry_lr0z, ↓ry_obu, ↓ry_r1, ↓ry_ri, true_and, re_a1, ↓re_F1, ↓re_i1, ↓re_ob, m1, rz_set, rz_nol, rz_clr, List.set_cons_zero, List.set_cons_succ, rz_tr, Nat.reduceAdd, Int.reduceAdd, Int.reduceToNat, Int.reduceSub, Int.reduceNeg, Int.cast_ofNat_Int]
  try simp (disch := omega) only [m1, pk_us, pk_un, va_up_self, va_up_ne, nI_add, pk_mul, nI_clamp, vp_inT, nI_ltI, nI_leI, nI_eqI, pk_sub, true_and, and_true]
  refine hK _ _ _ _ ?_
  refine rz_cS (As := [.int yf, .int (nI 0), .int (nI ((V.1 k).1 - 1))]) (S := []) l_Mod_210 (by decide +kernel) rfl (Nat.le_of_ble_eq_true rfl) (Nat.le_refl _) (Nat.le_refl _) (c_Mod_within _ _ _) (fun r G' hr => ?_)
  obtain ⟨rfl, hg⟩ := hr
  subst hg
  simp only [Option.toList, List.cons_append, List.nil_append]
  refine rz_blk' [(.ifCond .eq 39, 3, 0, 0)] (by decide +kernel) (Nat.le_refl _) (Nat.le_refl _) (fun K R hK hR => ?_)
  simp only [↓rx_ifCond_eq, ↓rx_nil, ↓ry_i1, m1, rz_set, rz_nol, rz_clr, List.set_cons_zero, List.set_cons_succ, rz_tr, Nat.reduceAdd, Int.reduceAdd, Int.reduceToNat, Int.reduceSub, Int.reduceNeg, Int.cast_ofNat_Int]
  try simp (disch := omega) only [m1, pk_us, pk_un, va_up_self, va_up_ne, nI_add, pk_mul, nI_clamp, vp_inT, nI_ltI, nI_leI, nI_eqI, pk_sub, true_and, and_true]
  rw [rz_b_0]
  refine ⟨fun q3 => hK _ _ _ _ ?_, fun q3 => hK _ _ _ _ ?_⟩
  · -- 23 taken
    refine rz_blk' [(.aload_n 0, 1, 0, 0), (.iconst 2, 1, 0, 0)] (by decide +kernel) (Nat.le_refl _) (Nat.le_refl _) (fun K R hK hR => ?_)
    simp only [rw_c2, ↓rx_aload_n0, ↓rx_iconst, ↓rx_nil, ↓ry_lr0s, ↓ry_lr0z, m1, rz_set, rz_nol, rz_clr, List.set_cons_zero, List.set_cons_succ, rz_tr, Nat.reduceAdd, Int.reduceAdd, Int.reduceToNat, Int.reduceSub, Int.reduceNeg, Int.cast_ofNat_Int]
    try simp (disch := omega) only [m1, pk_us, pk_un, va_up_self, va_up_ne, nI_add, pk_mul, nI_clamp, vp_inT, nI_ltI, nI_leI, nI_eqI, pk_sub, true_and, and_true]
    refine hK _ _ _ _ ?_
    refine rz_cV (As := [.int (nI 2)]) (b := a) (S := []) l_Mod_218 (by decide +kernel) rfl re_at0 rfl (Nat.le_of_ble_eq_true rfl) (Nat.le_refl _) (Nat.le_refl _) (c_Mod_fail _) (fun r G' hr => ?_)
    obtain ⟨rfl, rfl⟩ := hr
    simp only [Option.toList, List.cons_append, List.nil_append]
    refine rz_blk' [(.ireturn, 1, 0, 0)] (by decide +kernel) (Nat.le_refl _) (Nat.le_refl _) (fun K R hK hR => ?_)
    simp only [↓rx_ireturn, ↓rx_nil, m1, rz_set, rz_nol, rz_clr, List.set_cons_zero, List.set_cons_succ, rz_tr, Nat.reduceAdd, Int.reduceAdd, Int.reduceToNat, Int.reduceSub, Int.reduceNeg, Int.cast_ofNat_Int]
    try simp (disch := omega) only [m1, pk_us, pk_un, va_up_self, va_up_ne, nI_add, pk_mul, nI_clamp, vp_inT, nI_ltI, nI_leI, nI_eqI, pk_sub, true_and, and_true]
    refine hR _ _ (rz_nb_i (by decide)) ?_
    rw [← hQ]
    refine rv_e (rf_0 h) 2 (by decide) (by decide) (Or.inr ⟨k, hk, rfl, Or.inl ⟨rfl, fun ⟨⟨jf, gf, ef⟩, ⟨jt, gt, et⟩, ⟨jl, gl, el⟩, jn, gn, en⟩ => ?_⟩⟩)
    first
      | (rw [kf.mpr ⟨jf, Nat.zero_le _, by omega, ef⟩] at q3
         cases q3)
      | (rw [kt.mpr ⟨jt, Nat.zero_le _, by omega, et⟩] at q3
         cases q3)
      | (rw [kl.mpr ⟨jl, Nat.zero_le _, by omega, el⟩] at q3
         cases q3)
      | (rw [kn.mpr ⟨jn, Nat.zero_le _, gn, en⟩] at q3
         cases q3)
  · -- 23 not taken
    refine rz_blk' [(.iload 4, 2, 0, 0), (.iconst 0, 1, 0, 0), (.aload_n 0, 1, 0, 0), (.getfield 7, 3, 10, 1), (.iload_n 1, 1, 0, 0), (.iaload, 1, 0, 0), (.iconst 1, 1, 0, 0), (.isub, 1, 0, 0)] (by decide +kernel) (Nat.le_refl _) (Nat.le_refl _) (fun K R hK hR => ?_)
    simp only [rw_c0, rw_c1, ↓rx_aload_n0, ↓rx_getfield, ↓rx_iaload, ↓rx_iconst, ↓rx_iload, ↓rx_iload_n1, ↓rx_isub, ↓rx_nil, ↓ry_i2, ↓ry_iau, ↓ry_li0s, ↓ry_li0z, ↓ry_lr0s, ↓ry_lr0z, ↓ry_obu, ↓ry_r1, ↓ry_ri, true_and, re_a1, ↓re_F1, ↓re_i1, ↓re_ob, m1, rz_set, rz_nol, rz_clr, List.set_cons_zero, List.set_cons_succ, rz_tr, Nat.reduceAdd, Int.reduceAdd, Int.reduceToNat, Int.reduceSub, Int.reduceNeg, Int.cast_ofNat_Int]
    try simp (disch := omega) only [m1, pk_us, pk_un, va_up_self, va_up_ne, nI_add, pk_mul, nI_clamp, vp_inT, nI_ltI, nI_leI, nI_eqI, pk_sub, true_and, and_true]
    refine hK _ _ _ _ ?_
    refine rz_cS (As := [.int yt, .int (nI 0), .int (nI ((V.1 k).1 - 1))]) (S := []) l_Mod_210 (by decide +kernel) rfl (Nat.le_of_ble_eq_true rfl) (Nat.le_refl _) (Nat.le_refl _) (c_Mod_within _ _ _) (fun r G' hr => ?_)
    obtain ⟨rfl, hg⟩ := hr
    subst hg
    simp only [Option.toList, List.cons_append, List.nil_append]
    refine rz_blk' [(.ifCond .eq 22, 3, 0, 0)] (by decide +kernel) (Nat.le_refl _) (Nat.le_refl _) (fun K R hK hR => ?_)
    simp only [↓rx_ifCond_eq, ↓rx_nil, ↓ry_i1, m1, rz_set, rz_nol, rz_clr, List.set_cons_zero, List.set_cons_succ, rz_tr, Nat.reduceAdd, Int.reduceAdd, Int.reduceToNat, Int.reduceSub, Int.reduceNeg, Int.cast_ofNat_Int]
    try simp (disch := omega) only [m1, pk_us, pk_un, va_up_self, va_up_ne, nI_add, pk_mul, nI_clamp, vp_inT, nI_ltI, nI_leI, nI_eqI, pk_sub, true_and, and_true]
    rw [rz_b_0]
    refine ⟨fun q4 => hK _ _ _ _ ?_, fun q4 => hK _ _ _ _ ?_⟩
    · -- 40 taken
      refine rz_blk' [(.aload_n 0, 1, 0, 0), (.iconst 2, 1, 0, 0)] (by decide +kernel) (Nat.le_refl _) (Nat.le_refl _) (fun K R hK hR => ?_)
      simp only [rw_c2, ↓rx_aload_n0, ↓rx_iconst, ↓rx_nil, ↓ry_lr0s, ↓ry_lr0z, m1, rz_set, rz_nol, rz_clr, List.set_cons_zero, List.set_cons_succ, rz_tr, Nat.reduceAdd, Int.reduceAdd, Int.reduceToNat, Int.reduceSub, Int.reduceNeg, Int.cast_ofNat_Int]
      try simp (disch := omega) only [m1, pk_us, pk_un, va_up_self, va_up_ne, nI_add, pk_mul, nI_clamp, vp_inT, nI_ltI, nI_leI, nI_eqI, pk_sub, true_and, and_true]
      refine hK _ _ _ _ ?_
      refine rz_cV (As := [.int (nI 2)]) (b := a) (S := []) l_Mod_218 (by decide +kernel) rfl re_at0 rfl (Nat.le_of_ble_eq_true rfl) (Nat.le_refl _) (Nat.le_refl _) (c_Mod_fail _) (fun r G' hr => ?_)
      obtain ⟨rfl, rfl⟩ := hr
      simp only [Option.toList, List.cons_append, List.nil_append]
      refine rz_blk' [(.ireturn, 1, 0, 0)] (by decide +kernel) (Nat.le_refl _) (Nat.le_refl _) (fun K R hK hR => ?_)
      simp only [↓rx_ireturn, ↓rx_nil, m1, rz_set, rz_nol, rz_clr, List.set_cons_zero, List.set_cons_succ, rz_tr, Nat.reduceAdd, Int.reduceAdd, Int.reduceToNat, Int.reduceSub, Int.reduceNeg, Int.cast_ofNat_Int]
      try simp (disch := omega) only [m1, pk_us, pk_un, va_up_self, va_up_ne, nI_add, pk_mul, nI_clamp, vp_inT, nI_ltI, nI_leI, nI_eqI, pk_sub, true_and, and_true]
      refine hR _ _ (rz_nb_i (by decide)) ?_
      rw [← hQ]
      refine rv_e (rf_0 h) 2 (by decide) (by decide) (Or.inr ⟨k, hk, rfl, Or.inl ⟨rfl, fun ⟨⟨jf, gf, ef⟩, ⟨jt, gt, et⟩, ⟨jl, gl, el⟩, jn, gn, en⟩ => ?_⟩⟩)
      first
        | (rw [kf.mpr ⟨jf, Nat.zero_le _, by omega, ef⟩] at q4
           cases q4)
        | (rw [kt.mpr ⟨jt, Nat.zero_le _, by omega, et⟩] at q4
           cases q4)
        | (rw [kl.mpr ⟨jl, Nat.zero_le _, by omega, el⟩] at q4
           cases q4)
        | (rw [kn.mpr ⟨jn, Nat.zero_le _, gn, en⟩] at q4
           cases q4)
    · -- 40 not taken
      refine rz_blk' [(.iload_n 3, 1, 0, 0), (.iconst 0, 1, 0, 0), (.iconst 2, 1, 0, 0)] (by decide +kernel) (Nat.le_refl _) (Nat.le_refl _) (fun K R hK hR => ?_)
      simp only [rw_c0, rw_c2, ↓rx_iconst, ↓rx_iload_n3, ↓rx_nil, ↓ry_li0s, ↓ry_li0z, m1, rz_set, rz_nol, rz_clr, List.set_cons_zero, List.set_cons_succ, rz_tr, Nat.reduceAdd, Int.reduceAdd, Int.reduceToNat, Int.reduceSub, Int.reduceNeg, Int.cast_ofNat_Int]
      try simp (disch := omega) only [m1, pk_us, pk_un, va_up_self, va_up_ne, nI_add, pk_mul, nI_clamp, vp_inT, nI_ltI, nI_leI, nI_eqI, pk_sub, true_and, and_true]
      refine hK _ _ _ _ ?_
      refine rz_cS (As := [.int yl, .int (nI 0), .int (nI 2)]) (S := []) l_Mod_210 (by decide +kernel) rfl (Nat.le_of_ble_eq_true rfl) (Nat.le_refl _) (Nat.le_refl _) (c_Mod_within _ _ _) (fun r G' hr => ?_)
      obtain ⟨rfl, hg⟩ := hr
      subst hg
      simp only [Option.toList, List.cons_append, List.nil_append]
      refine rz_blk' [(.ifCond .eq 13, 3, 0, 0)] (by decide +kernel) (Nat.le_refl _) (Nat.le_refl _) (fun K R hK hR => ?_)
      simp only [↓rx_ifCond_eq, ↓rx_nil, ↓ry_i1, m1, rz_set, rz_nol, rz_clr, List.set_cons_zero, List.set_cons_succ, rz_tr, Nat.reduceAdd, Int.reduceAdd, Int.reduceToNat, Int.reduceSub, Int.reduceNeg, Int.cast_ofNat_Int]
      try simp (disch := omega) only [m1, pk_us, pk_un, va_up_self, va_up_ne, nI_add, pk_mul, nI_clamp, vp_inT, nI_ltI, nI_leI, nI_eqI, pk_sub, true_and, and_true]
      rw [rz_b_0]
      refine ⟨fun q5 => hK _ _ _ _ ?_, fun q5 => hK _ _ _ _ ?_⟩
      · -- 49 taken
        refine rz_blk' [(.aload_n 0, 1, 0, 0), (.iconst 2, 1, 0, 0)] (by decide +kernel) (Nat.le_refl _) (Nat.le_refl _) (fun K R hK hR => ?_)
        simp only [rw_c2, ↓rx_aload_n0, ↓rx_iconst, ↓rx_nil, ↓ry_lr0s, ↓ry_lr0z, m1, rz_set, rz_nol, rz_clr, List.set_cons_zero, List.set_cons_succ, rz_tr, Nat.reduceAdd, Int.reduceAdd, Int.reduceToNat, Int.reduceSub, Int.reduceNeg, Int.cast_ofNat_Int]
        try simp (disch := omega) only [m1, pk_us, pk_un, va_up_self, va_up_ne, nI_add, pk_mul, nI_clamp, vp_inT, nI_ltI, nI_leI, nI_eqI, pk_sub, true_and, and_true]
        refine hK _ _ _ _ ?_
        refine rz_cV (As := [.int (nI 2)]) (b := a) (S := []) l_Mod_218 (by decide +kernel) rfl re_at0 rfl (Nat.le_of_ble_eq_true rfl) (Nat.le_refl _) (Nat.le_refl _) (c_Mod_fail _) (fun r G' hr => ?_)
        obtain ⟨rfl, rfl⟩ := hr
        simp only [Option.toList, List.cons_append, List.nil_append]
        refine rz_blk' [(.ireturn, 1, 0, 0)] (by decide +kernel) (Nat.le_refl _) (Nat.le_refl _) (fun K R hK hR => ?_)
        simp only [↓rx_ireturn, ↓rx_nil, m1, rz_set, rz_nol, rz_clr, List.set_cons_zero, List.set_cons_succ, rz_tr, Nat.reduceAdd, Int.reduceAdd, Int.reduceToNat, Int.reduceSub, Int.reduceNeg, Int.cast_ofNat_Int]
        try simp (disch := omega) only [m1, pk_us, pk_un, va_up_self, va_up_ne, nI_add, pk_mul, nI_clamp, vp_inT, nI_ltI, nI_leI, nI_eqI, pk_sub, true_and, and_true]
        refine hR _ _ (rz_nb_i (by decide)) ?_
        rw [← hQ]
        refine rv_e (rf_0 h) 2 (by decide) (by decide) (Or.inr ⟨k, hk, rfl, Or.inl ⟨rfl, fun ⟨⟨jf, gf, ef⟩, ⟨jt, gt, et⟩, ⟨jl, gl, el⟩, jn, gn, en⟩ => ?_⟩⟩)
        first
          | (rw [kf.mpr ⟨jf, Nat.zero_le _, by omega, ef⟩] at q5
             cases q5)
          | (rw [kt.mpr ⟨jt, Nat.zero_le _, by omega, et⟩] at q5
             cases q5)
          | (rw [kl.mpr ⟨jl, Nat.zero_le _, by omega, el⟩] at q5
             cases q5)
          | (rw [kn.mpr ⟨jn, Nat.zero_le _, gn, en⟩] at q5
             cases q5)
      · -- 49 not taken
        refine rz_blk' [(.iload 5, 2, 0, 0), (.iconst 0, 1, 0, 0), (.iconst 3, 1, 0, 0)] (by decide +kernel) (Nat.le_refl _) (Nat.le_refl _) (fun K R hK hR => ?_)
        simp only [rw_c0, rw_c3, ↓rx_iconst, ↓rx_iload, ↓rx_nil, ↓ry_li0s, ↓ry_li0z, m1, rz_set, rz_nol, rz_clr, List.set_cons_zero, List.set_cons_succ, rz_tr, Nat.reduceAdd, Int.reduceAdd, Int.reduceToNat, Int.reduceSub, Int.reduceNeg, Int.cast_ofNat_Int]
        try simp (disch := omega) only [m1, pk_us, pk_un, va_up_self, va_up_ne, nI_add, pk_mul, nI_clamp, vp_inT, nI_ltI, nI_leI, nI_eqI, pk_sub, true_and, and_true]
        refine hK _ _ _ _ ?_
        refine rz_cS (As := [.int yn, .int (nI 0), .int (nI 3)]) (S := []) l_Mod_210 (by decide +kernel) rfl (Nat.le_of_ble_eq_true rfl) (Nat.le_refl _) (Nat.le_refl _) (c_Mod_within _ _ _) (fun r G' hr => ?_)
        obtain ⟨rfl, hg⟩ := hr
        subst hg
        simp only [Option.toList, List.cons_append, List.nil_append]
        refine rz_blk' [(.ifCond .ne 9, 3, 0, 0)] (by decide +kernel) (Nat.le_refl _) (Nat.le_refl _) (fun K R hK hR => ?_)
        simp only [↓rx_ifCond_ne, ↓rx_nil, ↓ry_i1, m1, rz_set, rz_nol, rz_clr, List.set_cons_zero, List.set_cons_succ, rz_tr, Nat.reduceAdd, Int.reduceAdd, Int.reduceToNat, Int.reduceSub, Int.reduceNeg, Int.cast_ofNat_Int]
        try simp (disch := omega) only [m1, pk_us, pk_un, va_up_self, va_up_ne, nI_add, pk_mul, nI_clamp, vp_inT, nI_ltI, nI_leI, nI_eqI, pk_sub, true_and, and_true]
        rw [rz_b_0]
        refine ⟨fun q6 => hK _ _ _ _ ?_, fun q6 => hK _ _ _ _ ?_⟩
        · -- 59 taken
          obtain ⟨f, -, hf, rfl⟩ := kf.mp (by simpa using q3)
          obtain ⟨t, -, ht, rfl⟩ := kt.mp (by simpa using q4)
          obtain ⟨l, -, hl, rfl⟩ := kl.mp (by simpa using q5)
          obtain ⟨n, -, hn, rfl⟩ := kn.mp (by simpa using q6)
          clear kf kt kl kn
          exact h68 f l t n (by omega) (by omega) (by omega) hn rfl rfl rfl rfl
        · -- 59 not taken
          refine rz_blk' [(.aload_n 0, 1, 0, 0), (.iconst 2, 1, 0, 0)] (by decide +kernel) (Nat.le_refl _) (Nat.le_refl _) (fun K R hK hR => ?_)
          simp only [rw_c2, ↓rx_aload_n0, ↓rx_iconst, ↓rx_nil, ↓ry_lr0s, ↓ry_lr0z, m1, rz_set, rz_nol, rz_clr, List.set_cons_zero, List.set_cons_succ, rz_tr, Nat.reduceAdd, Int.reduceAdd, Int.reduceToNat, Int.reduceSub, Int.reduceNeg, Int.cast_ofNat_Int]
          try simp (disch := omega) only [m1, pk_us, pk_un, va_up_self, va_up_ne, nI_add, pk_mul, nI_clamp, vp_inT, nI_ltI, nI_leI, nI_eqI, pk_sub, true_and, and_true]
          refine hK _ _ _ _ ?_
          refine rz_cV (As := [.int (nI 2)]) (b := a) (S := []) l_Mod_218 (by decide +kernel) rfl re_at0 rfl (Nat.le_of_ble_eq_true rfl) (Nat.le_refl _) (Nat.le_refl _) (c_Mod_fail _) (fun r G' hr => ?_)
          obtain ⟨rfl, rfl⟩ := hr
          simp only [Option.toList, List.cons_append, List.nil_append]
          refine rz_blk' [(.ireturn, 1, 0, 0)] (by decide +kernel) (Nat.le_refl _) (Nat.le_refl _) (fun K R hK hR => ?_)
          simp only [↓rx_ireturn, ↓rx_nil, m1, rz_set, rz_nol, rz_clr, List.set_cons_zero, List.set_cons_succ, rz_tr, Nat.reduceAdd, Int.reduceAdd, Int.reduceToNat, Int.reduceSub, Int.reduceNeg, Int.cast_ofNat_Int]
          try simp (disch := omega) only [m1, pk_us, pk_un, va_up_self, va_up_ne, nI_add, pk_mul, nI_clamp, vp_inT, nI_ltI, nI_leI, nI_eqI, pk_sub, true_and, and_true]
          refine hR _ _ (rz_nb_i (by decide)) ?_
          rw [← hQ]
          refine rv_e (rf_0 h) 2 (by decide) (by decide) (Or.inr ⟨k, hk, rfl, Or.inl ⟨rfl, fun ⟨⟨jf, gf, ef⟩, ⟨jt, gt, et⟩, ⟨jl, gl, el⟩, jn, gn, en⟩ => ?_⟩⟩)
          first
            | (rw [kf.mpr ⟨jf, Nat.zero_le _, by omega, ef⟩] at q6
               cases q6)
            | (rw [kt.mpr ⟨jt, Nat.zero_le _, by omega, et⟩] at q6
               cases q6)
            | (rw [kl.mpr ⟨jl, Nat.zero_le _, by omega, el⟩] at q6
               cases q6)
            | (rw [kn.mpr ⟨jn, Nat.zero_le _, gn, en⟩] at q6
               cases q6)
