/-! the reference: last, edge -/
set_option maxRecDepth 100000 in
set_option maxHeartbeats 400000 in
theorem c_Mod_last {w : rz_w} {d : Nat} {G : rz_G} {a : Nat} {I : Nat → Int32} {A : Nat → Nat → Int32} {V : dk_V} (h : rf I A V) (x yq yn u : Int32) : rz_C w (d + 3) 0 0 y_Mod_last m_Mod_last [.ref a, .int x, .int yq, .int yn, .int u] (re_put G a I A) (rv G a V (fun r V' => ∃ k q, k < 6 ∧ q < (V.1 k).1 ∧ x = nI k ∧ yq = nI q ∧ ((yn = -1 ∧ V' = dk_um V k (dk_fi (V.1 k) q none)) ∨ ∃ n, n ≤ 3 ∧ yn = nI n ∧ V' = dk_um V k (dk_fi (V.1 k) q (some (wd_told u.toBitVec.toNat n))))) (fun c => (c = 1 ∧ dk_no x) ∨ (c = 2 ∧ ∃ k, k < 6 ∧ x = nI k ∧ ¬ dk_lok (V.1 k) yq yn))) := by
  generalize hQ : (rv G a V (fun r V' => ∃ k q, k < 6 ∧ q < (V.1 k).1 ∧ x = nI k ∧ yq = nI q ∧ ((yn = -1 ∧ V' = dk_um V k (dk_fi (V.1 k) q none)) ∨ ∃ n, n ≤ 3 ∧ yn = nI n ∧ V' = dk_um V k (dk_fi (V.1 k) q (some (wd_told u.toBitVec.toNat n))))) (fun c => (c = 1 ∧ dk_no x) ∨ (c = 2 ∧ ∃ k, k < 6 ∧ x = nI k ∧ ¬ dk_lok (V.1 k) yq yn))) = Q
  refine rz_enter' [some (.ref a), some (.int x), some (.int yq), some (.int yn), some (.int u), none] (by decide +kernel) rfl rfl (Nat.le_of_ble_eq_true rfl) rfl ?_
  refine rz_blk' [(.aload_n 0, 1, 0, 0), (.iload_n 1, 1, 0, 0)] (by decide +kernel) (Nat.le_refl _) (Nat.le_refl _) (fun K R hK hR => ?_)
  simp only [↓rx_aload_n0, ↓rx_iload_n1, ↓rx_nil, ↓ry_li0s, ↓ry_li0z, ↓ry_lr0s, ↓ry_lr0z, rz_set, rz_nol, rz_clr, List.set_cons_zero, List.set_cons_succ, rz_tr, Nat.reduceAdd, Int.reduceAdd, Int.reduceToNat, Int.reduceSub, Int.reduceNeg, Int.cast_ofNat_Int]
  try simp (disch := omega) only [pk_us, pk_un, va_up_self, va_up_ne, nI_add, pk_mul, nI_clamp, vp_inT, nI_ltI, nI_leI, nI_eqI, pk_sub, true_and, and_true]
  refine hK _ _ _ _ ?_
  refine rz_cV (As := [.int x]) (b := a) (S := []) l_Mod_214 (by decide +kernel) rfl re_at0 rfl (Nat.le_of_ble_eq_true rfl) (Nat.le_refl _) (Nat.le_refl _) (c_Mod_isMachine _) (fun r G' hr => ?_)
  rcases hr with ⟨k, hk, rfl, rfl, hg⟩ | ⟨hno, rfl, hg⟩
  rotate_left
  · subst hg
    simp only [Option.toList, List.cons_append, List.nil_append]
    refine rz_blk' [(.ifCond .ne 4, 3, 0, 0)] (by decide +kernel) (Nat.le_refl _) (Nat.le_refl _) (fun K R hK hR => ?_)
    simp only [↓rx_ifCond_ne, ↓rx_nil, ↓ry_i1, rz_set, rz_nol, rz_clr, List.set_cons_zero, List.set_cons_succ, rz_tr, Nat.reduceAdd, Int.reduceAdd, Int.reduceToNat, Int.reduceSub, Int.reduceNeg, Int.cast_ofNat_Int]
    try simp (disch := omega) only [pk_us, pk_un, va_up_self, va_up_ne, nI_add, pk_mul, nI_clamp, vp_inT, nI_ltI, nI_leI, nI_eqI, pk_sub, true_and, and_true]
    refine ⟨fun q1 => absurd rfl q1, fun q1 => hK _ _ _ _ ?_⟩
    refine rz_blk' [(.return_, 1, 0, 0)] (by decide +kernel) (Nat.le_refl _) (Nat.le_refl _) (fun K R hK hR => ?_)
    simp only [↓rx_nil, ↓rx_return_, rz_set, rz_nol, rz_clr, List.set_cons_zero, List.set_cons_succ, rz_tr, Nat.reduceAdd, Int.reduceAdd, Int.reduceToNat, Int.reduceSub, Int.reduceNeg, Int.cast_ofNat_Int]
    try simp (disch := omega) only [pk_us, pk_un, va_up_self, va_up_ne, nI_add, pk_mul, nI_clamp, vp_inT, nI_ltI, nI_leI, nI_eqI, pk_sub, true_and, and_true]
    exact hR _ _ (rz_nb_i (by decide)) (by rw [← hQ]; exact rv_e h 1 (by decide) (by decide) (Or.inl ⟨rfl, hno⟩))
  subst hg
  simp only [Option.toList, List.cons_append, List.nil_append]
  have hnk : ¬ dk_no (nI k) := fun q => q k hk rfl
  have hm := h.1 k hk
  obtain ⟨m1, m2, m3, m4, m5, m6, m7, m8, m9, m10, m11⟩ := id hm
  have key := wi_iff (x := yq) (lo := 0) (hi := (V.1 k).1 - 1) (by decide) (by omega)
  have key2 := wi_m1 (x := yn) (hi := 3) (by decide)
  have hgo : ∀ (q : Nat) (fw : Option (List Nat)), q < (V.1 k).1 → yq = nI q → ((yn = -1 ∧ fw = none) ∨ ∃ n, n ≤ 3 ∧ yn = nI n ∧ fw = some (wd_told u.toBitVec.toNat n)) → rz_T w (d + 3) 0 0 m_Mod_last 0 0 40 [some (.ref a), some (.int (nI k)), some (.int (nI q)), some (.int yn), some (.int u), none] [] (re_put G a (upd I 0 (nI 0)) A) Q := by
    intro q fw hq hyq hfw
    have hos : os fw = yn := by rcases hfw with ⟨rfl, rfl⟩ | ⟨n, -, rfl, rfl⟩; rfl; simp only [os, wd_told_len]
    refine rz_blk' [(.aload_n 0, 1, 0, 0), (.getfield 31, 3, 10, 8), (.bipush 6, 2, 0, 0), (.iload_n 1, 1, 0, 0), (.imul, 1, 0, 0), (.iload_n 2, 1, 0, 0), (.iadd, 1, 0, 0), (.iload_n 3, 1, 0, 0), (.iastore, 1, 0, 0)] (by decide +kernel) (Nat.le_refl _) (Nat.le_refl _) (fun K R hK hR => ?_)
    simp only [rw_b6, ↓rx_aload_n0, ↓rx_bipush, ↓rx_getfield, ↓rx_iadd, ↓rx_iastore, ↓rx_iload_n1, ↓rx_iload_n2, ↓rx_iload_n3, ↓rx_imul, ↓rx_nil, ↓ry_i2, ↓ry_iau, ↓ry_li0s, ↓ry_li0z, ↓ry_lr0s, ↓ry_lr0z, ↓ry_obu, ↓ry_r1, ↓ry_rii, true_and, re_a8, ↓re_F8, ↓re_i8, ↓re_ob, rz_set, rz_nol, rz_clr, List.set_cons_zero, List.set_cons_succ, rz_tr, Nat.reduceAdd, Int.reduceAdd, Int.reduceToNat, Int.reduceSub, Int.reduceNeg, Int.cast_ofNat_Int]
    try simp (disch := omega) only [pk_us, pk_un, va_up_self, va_up_ne, nI_add, pk_mul, nI_clamp, vp_inT, nI_ltI, nI_leI, nI_eqI, pk_sub, true_and, and_true]
    refine hK _ _ _ _ ?_
    refine rz_blk' [(.iconst 0, 1, 0, 0), (.istore 5, 2, 0, 0)] (by decide +kernel) (Nat.le_refl _) (Nat.le_refl _) (fun K R hK hR => ?_)
    simp only [rw_c0, ↓rx_iconst, ↓rx_istore, ↓rx_nil, ↓ry_i1, rz_set, rz_nol, rz_clr, List.set_cons_zero, List.set_cons_succ, rz_tr, Nat.reduceAdd, Int.reduceAdd, Int.reduceToNat, Int.reduceSub, Int.reduceNeg, Int.cast_ofNat_Int]
    try simp (disch := omega) only [pk_us, pk_un, va_up_self, va_up_ne, nI_add, pk_mul, nI_clamp, vp_inT, nI_ltI, nI_leI, nI_eqI, pk_sub, true_and, and_true]
    refine hK _ _ _ _ ?_
    generalize hB : va_up A 8 _ = B
    have lp : ∀ (j i : Nat) (A1 : Nat → Nat → Int32), i + j = 3 → (∀ f, f ≠ 9 → A1 f = B f) → (∀ x, (x < 3 * (6 * k + q) ∨ 3 * (6 * k + q) + i ≤ x) → A1 9 x = B 9 x) → (∀ sx, sx < i → A1 9 (3 * (6 * k + q) + sx) = nI (u.toBitVec.toNat / 2 ^ (3 * sx) % 8)) → rz_T w (d + 3) 0 0 m_Mod_last 0 0 55 [some (.ref a), some (.int (nI k)), some (.int (nI q)), some (.int yn), some (.int u), some (.int (nI i))] [] (re_put G a (upd I 0 (nI 0)) A1) Q := by
      intro j
      induction j with
      | zero =>
        intro i A1 hij hf hx hs
        have hi : i = 3 := by omega
        subst hi
        refine rz_blk' [(.iload 5, 2, 0, 0), (.iconst 3, 1, 0, 0), (.if_icmp .ge 35, 3, 0, 0)] (by decide +kernel) (Nat.le_refl _) (Nat.le_refl _) (fun K R hK hR => ?_)
        simp only [rw_c3, ↓rx_iconst, ↓rx_if_icmp_ge, ↓rx_iload, ↓rx_nil, ↓ry_i2, ↓ry_li0s, ↓ry_li0z, rz_set, rz_nol, rz_clr, List.set_cons_zero, List.set_cons_succ, rz_tr, Nat.reduceAdd, Int.reduceAdd, Int.reduceToNat, Int.reduceSub, Int.reduceNeg, Int.cast_ofNat_Int]
        try simp (disch := omega) only [pk_us, pk_un, va_up_self, va_up_ne, nI_add, pk_mul, nI_clamp, vp_inT, nI_ltI, nI_leI, nI_eqI, pk_sub, true_and, and_true]
        refine ⟨fun q31 => hK _ _ _ _ ?_, fun q31 => by omega⟩
        refine rz_blk' [(.return_, 1, 0, 0)] (by decide +kernel) (Nat.le_refl _) (Nat.le_refl _) (fun K R hK hR => ?_)
        simp only [↓rx_nil, ↓rx_return_, rz_set, rz_nol, rz_clr, List.set_cons_zero, List.set_cons_succ, rz_tr, Nat.reduceAdd, Int.reduceAdd, Int.reduceToNat, Int.reduceSub, Int.reduceNeg, Int.cast_ofNat_Int]
        try simp (disch := omega) only [pk_us, pk_un, va_up_self, va_up_ne, nI_add, pk_mul, nI_clamp, vp_inT, nI_ltI, nI_leI, nI_eqI, pk_sub, true_and, and_true]
        refine hR _ _ (rz_nb_i (by decide)) ?_
        rw [← hQ]
        have hsg : sg (A1 9) (3 * (6 * k + q)) (fw.getD []) := by
          rcases hfw with ⟨-, rfl⟩ | ⟨n, hn, -, rfl⟩
          · exact sg_nil
          · exact sg_told hn hs
        refine rv_f pk_us (rf_um h (k := k) (m := dk_fi (V.1 k) q fw) (fun j hj => pk_un hj) (fun f x ho => ?_) ⟨?_, m2, m3, ?_, m5, fun e he => ?_, fun p hp => ?_, fun p hp => ?_, ?_, ?_, m11.1, fun p xs hpx => ?_, m11.2.2.1, m11.2.2.2⟩) ⟨k, q, hk, hq, rfl, hyq, ?_⟩
        · by_cases c : f = 9
          · subst c; rw [hx x (by unfold re_own at ho; omega), ← hB, va_up_ne _ _ (by decide)]
          · rw [hf f c, ← hB]
            by_cases c2 : f = 8
            · subst c2; rw [va_up_self, pk_un (by unfold re_own at ho; omega)]
            · rw [va_up_ne _ _ c2]
        · rw [hf 1 (by decide), ← hB, va_up_ne _ _ (by decide)]; exact m1
        · rw [hf 2 (by decide), ← hB, va_up_ne _ _ (by decide)]; exact m4
        · rw [hf 3 (by decide), hf 4 (by decide), hf 5 (by decide), hf 6 (by decide), hf 7 (by decide), ← hB]
          exact m6 e he
        · show A1 8 (6 * k + p) = os (va_up (V.1 k).2.2.1 q fw p) ∧ sg (A1 9) (3 * (6 * k + p)) ((va_up (V.1 k).2.2.1 q fw p).getD [])
          by_cases c : p = q
          · subst c
            rw [va_up_self, hf 8 (by decide), ← hB, va_up_self, pk_us]
            exact ⟨hos.symm, hsg⟩
          · rw [va_up_ne _ _ c, hf 8 (by decide), ← hB, va_up_self, pk_un (by omega)]
            refine ⟨(m7 p hp).1, (m7 p hp).2.k (fun x a1 a2 => ?_)⟩
            have l3 : ((V.1 k).2.2.1 p |>.getD []).length ≤ 3 := by
              cases c3 : (V.1 k).2.2.1 p with
              | none => simp
              | some xs => exact (m11.2.1 p xs c3).1
            rw [hx x (by omega), ← hB, va_up_ne _ _ (by decide)]
        · show va_up (V.1 k).2.2.1 q fw p = none
          have hp1 : (V.1 k).1 ≤ p := hp
          rw [va_up_ne _ _ (by omega)]; exact m8 p hp1
        · rw [hf 10 (by decide), ← hB, va_up_ne _ _ (by decide)]; exact m9
        · rw [hf 11 (by decide), ← hB, va_up_ne _ _ (by decide)]; exact m10
        · have hpx : va_up (V.1 k).2.2.1 q fw p = some xs := hpx
          by_cases c : p = q
          · subst c
            rw [va_up_self] at hpx
            rcases hfw with ⟨-, rfl⟩ | ⟨n, hn, -, rfl⟩
            · cases hpx
            · cases hpx
              exact ⟨by rw [wd_told_len]; exact hn, wd_told_8 _ _⟩
          · rw [va_up_ne _ _ c] at hpx; exact m11.2.1 p xs hpx
        · rcases hfw with ⟨hy, rfl⟩ | ⟨n, hn, hy, rfl⟩
          · exact Or.inl ⟨hy, rfl⟩
          · exact Or.inr ⟨n, hn, hy, rfl⟩
      | succ j ih =>
        intro i A1 hij hf hx hs
        refine rz_blk' [(.iload 5, 2, 0, 0), (.iconst 3, 1, 0, 0), (.if_icmp .ge 35, 3, 0, 0)] (by decide +kernel) (Nat.le_refl _) (Nat.le_refl _) (fun K R hK hR => ?_)
        simp only [rw_c3, ↓rx_iconst, ↓rx_if_icmp_ge, ↓rx_iload, ↓rx_nil, ↓ry_i2, ↓ry_li0s, ↓ry_li0z, rz_set, rz_nol, rz_clr, List.set_cons_zero, List.set_cons_succ, rz_tr, Nat.reduceAdd, Int.reduceAdd, Int.reduceToNat, Int.reduceSub, Int.reduceNeg, Int.cast_ofNat_Int]
        try simp (disch := omega) only [re_sh, pk_us, pk_un, va_up_self, va_up_ne, nI_add, pk_mul, nI_clamp, vp_inT, nI_ltI, nI_leI, nI_eqI, pk_sub, true_and, and_true]
        refine ⟨fun q32 => by omega, fun q32 => hK _ _ _ _ ?_⟩
        refine rz_blk' [(.aload_n 0, 1, 0, 0), (.getfield 34, 3, 10, 9), (.iconst 3, 1, 0, 0), (.bipush 6, 2, 0, 0), (.iload_n 1, 1, 0, 0), (.imul, 1, 0, 0), (.iload_n 2, 1, 0, 0), (.iadd, 1, 0, 0), (.imul, 1, 0, 0), (.iload 5, 2, 0, 0), (.iadd, 1, 0, 0), (.iload 4, 2, 0, 0), (.iconst 3, 1, 0, 0), (.iload 5, 2, 0, 0), (.imul, 1, 0, 0), (.ishr, 1, 0, 0), (.bipush 7, 2, 0, 0), (.iand, 1, 0, 0), (.iastore, 1, 0, 0)] (by decide +kernel) (Nat.le_refl _) (Nat.le_refl _) (fun K R hK hR => ?_)
        simp only [rw_b6, rw_b7, rw_c3, ↓rx_aload_n0, ↓rx_bipush, ↓rx_getfield, ↓rx_iadd, ↓rx_iand, ↓rx_iastore, ↓rx_iconst, ↓rx_iload, ↓rx_iload_n1, ↓rx_iload_n2, ↓rx_imul, ↓rx_ishr, ↓rx_nil, ↓ry_i2, ↓ry_iau, ↓ry_li0s, ↓ry_li0z, ↓ry_lr0s, ↓ry_lr0z, ↓ry_obu, ↓ry_r1, ↓ry_rii, true_and, re_a9, ↓re_F9, ↓re_i9, ↓re_ob, rz_set, rz_nol, rz_clr, List.set_cons_zero, List.set_cons_succ, rz_tr, Nat.reduceAdd, Int.reduceAdd, Int.reduceToNat, Int.reduceSub, Int.reduceNeg, Int.cast_ofNat_Int]
        try simp (disch := omega) only [re_sh, pk_us, pk_un, va_up_self, va_up_ne, nI_add, pk_mul, nI_clamp, vp_inT, nI_ltI, nI_leI, nI_eqI, pk_sub, true_and, and_true]
        refine hK _ _ _ _ ?_
        refine rz_blk' [(.iinc 5 1, 3, 0, 0)] (by decide +kernel) (Nat.le_refl _) (Nat.le_refl _) (fun K R hK hR => ?_)
        simp only [rw_c1, ↓rx_iinc, ↓rx_nil, ↓ry_li0s, ↓ry_li0z, rz_set, rz_nol, rz_clr, List.set_cons_zero, List.set_cons_succ, rz_tr, Nat.reduceAdd, Int.reduceAdd, Int.reduceToNat, Int.reduceSub, Int.reduceNeg, Int.cast_ofNat_Int]
        try simp (disch := omega) only [re_sh, pk_us, pk_un, va_up_self, va_up_ne, nI_add, pk_mul, nI_clamp, vp_inT, nI_ltI, nI_leI, nI_eqI, pk_sub, true_and, and_true]
        refine hK _ _ _ _ ?_
        refine rz_blk' [(.goto (-35), 3, 0, 0)] (by decide +kernel) (Nat.le_refl _) (Nat.le_refl _) (fun K R hK hR => ?_)
        simp only [↓rx_goto, ↓rx_nil, rz_set, rz_nol, rz_clr, List.set_cons_zero, List.set_cons_succ, rz_tr, Nat.reduceAdd, Int.reduceAdd, Int.reduceToNat, Int.reduceSub, Int.reduceNeg, Int.cast_ofNat_Int]
        try simp (disch := omega) only [re_sh, pk_us, pk_un, va_up_self, va_up_ne, nI_add, pk_mul, nI_clamp, vp_inT, nI_ltI, nI_leI, nI_eqI, pk_sub, true_and, and_true]
        refine hK _ _ _ _ ?_
        refine ih (i + 1) _ (by omega) (fun f hf1 => ?_) (fun x hx1 => ?_) (fun sx hsx => ?_)
        · rw [va_up_ne _ _ hf1]; exact hf f hf1
        · rw [va_up_self, pk_un (by omega)]; exact hx x (by omega)
        · rw [va_up_self]
          by_cases c : sx = i
          · subst c; rw [pk_us]
          · rw [pk_un (by omega)]; exact hs sx (by omega)
    exact lp 3 0 B rfl (fun _ _ => rfl) (fun _ _ => rfl) (fun q hq => absurd hq (Nat.not_lt_zero _))
  refine rz_blk' [(.ifCond .ne 4, 3, 0, 0)] (by decide +kernel) (Nat.le_refl _) (Nat.le_refl _) (fun K R hK hR => ?_)
  simp only [↓rx_ifCond_ne, ↓rx_nil, ↓ry_i1, m1, rz_set, rz_nol, rz_clr, List.set_cons_zero, List.set_cons_succ, rz_tr, Nat.reduceAdd, Int.reduceAdd, Int.reduceToNat, Int.reduceSub, Int.reduceNeg, Int.cast_ofNat_Int]
  try simp (disch := omega) only [m1, pk_us, pk_un, va_up_self, va_up_ne, nI_add, pk_mul, nI_clamp, vp_inT, nI_ltI, nI_leI, nI_eqI, pk_sub, true_and, and_true]
  refine ⟨fun q2 => hK _ _ _ _ ?_, fun q2 => absurd q2 (show ¬ rz_b true = 0 by decide)⟩
  refine rz_blk' [(.iload_n 2, 1, 0, 0), (.iconst 0, 1, 0, 0), (.aload_n 0, 1, 0, 0), (.getfield 7, 3, 10, 1), (.iload_n 1, 1, 0, 0), (.iaload, 1, 0, 0), (.iconst 1, 1, 0, 0), (.isub, 1, 0, 0)] (by decide +kernel) (Nat.le_refl _) (Nat.le_refl _) (fun K R hK hR => ?_)
  simp only [rw_c0, rw_c1, ↓rx_aload_n0, ↓rx_getfield, ↓rx_iaload, ↓rx_iconst, ↓rx_iload_n1, ↓rx_iload_n2, ↓rx_isub, ↓rx_nil, ↓ry_i2, ↓ry_iau, ↓ry_li0s, ↓ry_li0z, ↓ry_lr0s, ↓ry_lr0z, ↓ry_obu, ↓ry_r1, ↓ry_ri, true_and, re_a1, ↓re_F1, ↓re_i1, ↓re_ob, m1, rz_set, rz_nol, rz_clr, List.set_cons_zero, List.set_cons_succ, rz_tr, Nat.reduceAdd, Int.reduceAdd, Int.reduceToNat, Int.reduceSub, Int.reduceNeg, Int.cast_ofNat_Int]
  try simp (disch := omega) only [m1, pk_us, pk_un, va_up_self, va_up_ne, nI_add, pk_mul, nI_clamp, vp_inT, nI_ltI, nI_leI, nI_eqI, pk_sub, true_and, and_true]
  refine hK _ _ _ _ ?_
  refine rz_cS (As := [.int yq, .int (nI 0), .int (nI ((V.1 k).1 - 1))]) (S := []) l_Mod_210 (by decide +kernel) rfl (Nat.le_of_ble_eq_true rfl) (Nat.le_refl _) (Nat.le_refl _) (c_Mod_within _ _ _) (fun r G' hr => ?_)
  obtain ⟨rfl, hg⟩ := hr
  subst hg
  simp only [Option.toList, List.cons_append, List.nil_append]
  refine rz_blk' [(.ifCond .eq 12, 3, 0, 0)] (by decide +kernel) (Nat.le_refl _) (Nat.le_refl _) (fun K R hK hR => ?_)
  simp only [↓rx_ifCond_eq, ↓rx_nil, ↓ry_i1, m1, rz_set, rz_nol, rz_clr, List.set_cons_zero, List.set_cons_succ, rz_tr, Nat.reduceAdd, Int.reduceAdd, Int.reduceToNat, Int.reduceSub, Int.reduceNeg, Int.cast_ofNat_Int]
  try simp (disch := omega) only [m1, pk_us, pk_un, va_up_self, va_up_ne, nI_add, pk_mul, nI_clamp, vp_inT, nI_ltI, nI_leI, nI_eqI, pk_sub, true_and, and_true]
  rw [rz_b_0]
  refine ⟨fun q3 => hK _ _ _ _ ?_, fun q3 => hK _ _ _ _ ?_⟩
  · -- 22 taken
    refine rz_blk' [(.aload_n 0, 1, 0, 0), (.iconst 2, 1, 0, 0), (.putfield 206, 3, 10, 0)] (by decide +kernel) (Nat.le_refl _) (Nat.le_refl _) (fun K R hK hR => ?_)
    simp only [List.length_cons, List.length_nil, Nat.reduceLT, rf_10_0, rw_c2, ↓rx_aload_n0, ↓rx_iconst, ↓rx_nil, ↓rx_putfield, ↓ry_lr0s, ↓ry_lr0z, ↓ry_obu, ↓ry_vr, true_and, re_len, re_u0, ↓re_ob, m1, rz_set, rz_nol, rz_clr, List.set_cons_zero, List.set_cons_succ, rz_tr, Nat.reduceAdd, Int.reduceAdd, Int.reduceToNat, Int.reduceSub, Int.reduceNeg, Int.cast_ofNat_Int]
    try simp (disch := omega) only [m1, pk_us, pk_un, va_up_self, va_up_ne, nI_add, pk_mul, nI_clamp, vp_inT, nI_ltI, nI_leI, nI_eqI, pk_sub, true_and, and_true]
    refine hK _ _ _ _ ?_
    refine rz_blk' [(.return_, 1, 0, 0)] (by decide +kernel) (Nat.le_refl _) (Nat.le_refl _) (fun K R hK hR => ?_)
    simp only [↓rx_nil, ↓rx_return_, m1, rz_set, rz_nol, rz_clr, List.set_cons_zero, List.set_cons_succ, rz_tr, Nat.reduceAdd, Int.reduceAdd, Int.reduceToNat, Int.reduceSub, Int.reduceNeg, Int.cast_ofNat_Int]
    try simp (disch := omega) only [m1, pk_us, pk_un, va_up_self, va_up_ne, nI_add, pk_mul, nI_clamp, vp_inT, nI_ltI, nI_leI, nI_eqI, pk_sub, true_and, and_true]
    refine hR _ _ (rz_nb_i (by decide)) ?_
    rw [← hQ]
    refine rv_e (rf_0 h) 2 (by decide) (by decide) (Or.inr ⟨rfl, k, hk, rfl, fun hl => ?_⟩)
    first
      | (obtain ⟨j, hj, hy⟩ := hl.1
         rw [key.mpr ⟨j, Nat.zero_le _, by omega, hy⟩] at q3
         cases q3)
      | (rw [key2.mpr hl.2] at q3
         cases q3)
  · -- 22 not taken
    refine rz_blk' [(.iload_n 3, 1, 0, 0), (.iconst (-1), 1, 0, 0), (.iconst 3, 1, 0, 0)] (by decide +kernel) (Nat.le_refl _) (Nat.le_refl _) (fun K R hK hR => ?_)
    simp only [rw_c3, rw_cm1, ↓rx_iconst, ↓rx_iload_n3, ↓rx_nil, ↓ry_li0s, ↓ry_li0z, m1, rz_set, rz_nol, rz_clr, List.set_cons_zero, List.set_cons_succ, rz_tr, Nat.reduceAdd, Int.reduceAdd, Int.reduceToNat, Int.reduceSub, Int.reduceNeg, Int.cast_ofNat_Int]
    try simp (disch := omega) only [m1, pk_us, pk_un, va_up_self, va_up_ne, nI_add, pk_mul, nI_clamp, vp_inT, nI_ltI, nI_leI, nI_eqI, pk_sub, true_and, and_true]
    refine hK _ _ _ _ ?_
    refine rz_cS (As := [.int yn, .int (-1), .int (nI 3)]) (S := []) l_Mod_210 (by decide +kernel) rfl (Nat.le_of_ble_eq_true rfl) (Nat.le_refl _) (Nat.le_refl _) (c_Mod_within _ _ _) (fun r G' hr => ?_)
    obtain ⟨rfl, hg⟩ := hr
    subst hg
    simp only [Option.toList, List.cons_append, List.nil_append]
    refine rz_blk' [(.ifCond .ne 9, 3, 0, 0)] (by decide +kernel) (Nat.le_refl _) (Nat.le_refl _) (fun K R hK hR => ?_)
    simp only [↓rx_ifCond_ne, ↓rx_nil, ↓ry_i1, m1, rz_set, rz_nol, rz_clr, List.set_cons_zero, List.set_cons_succ, rz_tr, Nat.reduceAdd, Int.reduceAdd, Int.reduceToNat, Int.reduceSub, Int.reduceNeg, Int.cast_ofNat_Int]
    try simp (disch := omega) only [m1, pk_us, pk_un, va_up_self, va_up_ne, nI_add, pk_mul, nI_clamp, vp_inT, nI_ltI, nI_leI, nI_eqI, pk_sub, true_and, and_true]
    rw [rz_b_0]
    refine ⟨fun q4 => hK _ _ _ _ ?_, fun q4 => hK _ _ _ _ ?_⟩
    · -- 31 taken
      obtain ⟨q, -, hq, hyq⟩ := key.mp (by simpa using q3)
      have hg := hgo q
      rw [← hyq] at hg
      rcases key2.mp (by simpa using q4) with hy | ⟨n, hn, hy⟩
      · exact hg none (by omega) rfl (Or.inl ⟨hy, rfl⟩)
      · exact hg _ (by omega) rfl (Or.inr ⟨n, hn, hy, rfl⟩)
    · -- 31 not taken
      refine rz_blk' [(.aload_n 0, 1, 0, 0), (.iconst 2, 1, 0, 0), (.putfield 206, 3, 10, 0)] (by decide +kernel) (Nat.le_refl _) (Nat.le_refl _) (fun K R hK hR => ?_)
      simp only [List.length_cons, List.length_nil, Nat.reduceLT, rf_10_0, rw_c2, ↓rx_aload_n0, ↓rx_iconst, ↓rx_nil, ↓rx_putfield, ↓ry_lr0s, ↓ry_lr0z, ↓ry_obu, ↓ry_vr, true_and, re_len, re_u0, ↓re_ob, m1, rz_set, rz_nol, rz_clr, List.set_cons_zero, List.set_cons_succ, rz_tr, Nat.reduceAdd, Int.reduceAdd, Int.reduceToNat, Int.reduceSub, Int.reduceNeg, Int.cast_ofNat_Int]
      try simp (disch := omega) only [m1, pk_us, pk_un, va_up_self, va_up_ne, nI_add, pk_mul, nI_clamp, vp_inT, nI_ltI, nI_leI, nI_eqI, pk_sub, true_and, and_true]
      refine hK _ _ _ _ ?_
      refine rz_blk' [(.return_, 1, 0, 0)] (by decide +kernel) (Nat.le_refl _) (Nat.le_refl _) (fun K R hK hR => ?_)
      simp only [↓rx_nil, ↓rx_return_, m1, rz_set, rz_nol, rz_clr, List.set_cons_zero, List.set_cons_succ, rz_tr, Nat.reduceAdd, Int.reduceAdd, Int.reduceToNat, Int.reduceSub, Int.reduceNeg, Int.cast_ofNat_Int]
      try simp (disch := omega) only [m1, pk_us, pk_un, va_up_self, va_up_ne, nI_add, pk_mul, nI_clamp, vp_inT, nI_ltI, nI_leI, nI_eqI, pk_sub, true_and, and_true]
      refine hR _ _ (rz_nb_i (by decide)) ?_
      rw [← hQ]
      refine rv_e (rf_0 h) 2 (by decide) (by decide) (Or.inr ⟨rfl, k, hk, rfl, fun hl => ?_⟩)
      first
        | (obtain ⟨j, hj, hy⟩ := hl.1
           rw [key.mpr ⟨j, Nat.zero_le _, by omega, hy⟩] at q4
           cases q4)
        | (rw [key2.mpr hl.2] at q4
           cases q4)
