/-! the reference: turnWays, isBefore -/
theorem lcpn_wd : ∀ u v : List Nat, lcpn u v = wd_lcp u v
  | [], v => by simp [lcpn, wd_lcp]
  | x :: u, [] => by simp [lcpn, wd_lcp]
  | x :: u, y :: v => by simp only [lcpn, wd_lcp, lcpn_wd u v]
set_option maxRecDepth 100000 in
set_option maxHeartbeats 400000 in
theorem c_Mod_turnWays {w : rz_w} {d : Nat} {G : rz_G} {a : Nat} {I : Nat → Int32} {A : Nat → Nat → Int32} {N : List (Nat × List Nat)} (hN : wy (I 51) (A 55) (A 56) (A 57) N) : rz_C w d 0 0 y_Mod_turnWays m_Mod_turnWays [.ref a] (re_put G a I A) (fun (r : Option Value) (G' : rz_G) => r = none ∧ ∃ I' A', G' = re_put G a I' A' ∧ fi [50] I I' ∧ fa [52, 53, 54] A A' ∧ wy (I' 50) (A' 52) (A' 53) (A' 54) N) := by
  generalize hQ : (fun (r : Option Value) (G' : rz_G) => r = none ∧ ∃ I' A', G' = re_put G a I' A' ∧ fi [50] I I' ∧ fa [52, 53, 54] A A' ∧ wy (I' 50) (A' 52) (A' 53) (A' 54) N) = Q
  obtain ⟨n1, n2, n3⟩ := id hN
  have c1 : ∀ (B : Nat → Nat → Int32) (i0 : Nat), i0 < 201 → rz_T w d 0 0 m_Mod_turnWays 0 0 70 [some (.ref a), some (.int (nI i0)), some (.int (nI (40)))] [] (re_put G a I (va_up B 54 (cp (B 54) (40 * i0) (B 57) (40 * i0) (40)))) Q → rz_T w d 0 0 m_Mod_turnWays 0 0 36 [some (.ref a), some (.int (nI i0)), some (.int (nI 0))] [] (re_put G a I B) Q := by
    intro B i0 hi0 hx
    have lp : ∀ (cj cx : Nat), cx + cj = 40 → rz_T w d 0 0 m_Mod_turnWays 0 0 36 [some (.ref a), some (.int (nI i0)), some (.int (nI cx))] [] (re_put G a I (va_up B 54 (cp (B 54) (40 * i0) (B 57) (40 * i0) cx))) Q := by
      intro cj
      induction cj with
      | zero =>
        intro cx hij
        have hi : cx = 40 := by omega
        subst hi
        refine rz_blk' [(.iload_n 2, 1, 0, 0), (.bipush 40, 2, 0, 0), (.if_icmp .ge 31, 3, 0, 0)] (by decide +kernel) (Nat.le_refl _) (Nat.le_refl _) (fun K R hK hR => ?_)
        simp only [rw_b40, ↓rx_bipush, ↓rx_if_icmp_ge, ↓rx_iload_n2, ↓rx_nil, ↓ry_i2, ↓ry_li0s, ↓ry_li0z, rz_set, rz_nol, rz_clr, List.set_cons_zero, List.set_cons_succ, rz_tr, Nat.reduceAdd, Int.reduceAdd, Int.reduceToNat, Int.reduceSub, Int.reduceNeg, Int.cast_ofNat_Int]
        try simp (disch := omega) only [pk_us, pk_un, va_up_self, va_up_ne, nI_add, pk_mul, nI_clamp, vp_inT, nI_ltI, nI_leI, nI_eqI, pk_sub, true_and, and_true]
        refine ⟨fun q1 => hK _ _ _ _ ?_, fun q1 => by omega⟩
        exact hx
      | succ cj ih =>
        intro cx hij
        refine rz_blk' [(.iload_n 2, 1, 0, 0), (.bipush 40, 2, 0, 0), (.if_icmp .ge 31, 3, 0, 0)] (by decide +kernel) (Nat.le_refl _) (Nat.le_refl _) (fun K R hK hR => ?_)
        simp only [rw_b40, ↓rx_bipush, ↓rx_if_icmp_ge, ↓rx_iload_n2, ↓rx_nil, ↓ry_i2, ↓ry_li0s, ↓ry_li0z, rz_set, rz_nol, rz_clr, List.set_cons_zero, List.set_cons_succ, rz_tr, Nat.reduceAdd, Int.reduceAdd, Int.reduceToNat, Int.reduceSub, Int.reduceNeg, Int.cast_ofNat_Int]
        try simp (disch := omega) only [pk_us, pk_un, va_up_self, va_up_ne, nI_add, pk_mul, nI_clamp, vp_inT, nI_ltI, nI_leI, nI_eqI, pk_sub, true_and, and_true]
        refine ⟨fun q2 => by omega, fun q2 => hK _ _ _ _ ?_⟩
        refine rz_blk' [(.aload_n 0, 1, 0, 0), (.getfield 138, 3, 10, 54), (.bipush 40, 2, 0, 0), (.iload_n 1, 1, 0, 0), (.imul, 1, 0, 0), (.iload_n 2, 1, 0, 0), (.iadd, 1, 0, 0), (.aload_n 0, 1, 0, 0), (.getfield 147, 3, 10, 57), (.bipush 40, 2, 0, 0), (.iload_n 1, 1, 0, 0), (.imul, 1, 0, 0), (.iload_n 2, 1, 0, 0), (.iadd, 1, 0, 0), (.iaload, 1, 0, 0), (.iastore, 1, 0, 0)] (by decide +kernel) (Nat.le_refl _) (Nat.le_refl _) (fun K R hK hR => ?_)
        simp only [rw_b40, ↓rx_aload_n0, ↓rx_bipush, ↓rx_getfield, ↓rx_iadd, ↓rx_iaload, ↓rx_iastore, ↓rx_iload_n1, ↓rx_iload_n2, ↓rx_imul, ↓rx_nil, ↓ry_i2, ↓ry_iau, ↓ry_li0s, ↓ry_li0z, ↓ry_lr0s, ↓ry_lr0z, ↓ry_obu, ↓ry_r1, ↓ry_ri, ↓ry_rii, true_and, re_a54, re_a57, ↓re_F54, ↓re_F57, ↓re_i54, ↓re_i57, ↓re_ob, rz_set, rz_nol, rz_clr, List.set_cons_zero, List.set_cons_succ, rz_tr, Nat.reduceAdd, Int.reduceAdd, Int.reduceToNat, Int.reduceSub, Int.reduceNeg, Int.cast_ofNat_Int]
        try simp (disch := omega) only [pk_us, pk_un, va_up_self, va_up_ne, nI_add, pk_mul, nI_clamp, vp_inT, nI_ltI, nI_leI, nI_eqI, pk_sub, true_and, and_true]
        refine hK _ _ _ _ ?_
        refine rz_blk' [(.iinc 2 1, 3, 0, 0)] (by decide +kernel) (Nat.le_refl _) (Nat.le_refl _) (fun K R hK hR => ?_)
        simp only [rw_c1, ↓rx_iinc, ↓rx_nil, ↓ry_li0s, ↓ry_li0z, rz_set, rz_nol, rz_clr, List.set_cons_zero, List.set_cons_succ, rz_tr, Nat.reduceAdd, Int.reduceAdd, Int.reduceToNat, Int.reduceSub, Int.reduceNeg, Int.cast_ofNat_Int]
        try simp (disch := omega) only [pk_us, pk_un, va_up_self, va_up_ne, nI_add, pk_mul, nI_clamp, vp_inT, nI_ltI, nI_leI, nI_eqI, pk_sub, true_and, and_true]
        refine hK _ _ _ _ ?_
        refine rz_blk' [(.goto (-31), 3, 0, 0)] (by decide +kernel) (Nat.le_refl _) (Nat.le_refl _) (fun K R hK hR => ?_)
        simp only [↓rx_goto, ↓rx_nil, rz_set, rz_nol, rz_clr, List.set_cons_zero, List.set_cons_succ, rz_tr, Nat.reduceAdd, Int.reduceAdd, Int.reduceToNat, Int.reduceSub, Int.reduceNeg, Int.cast_ofNat_Int]
        try simp (disch := omega) only [pk_us, pk_un, va_up_self, va_up_ne, nI_add, pk_mul, nI_clamp, vp_inT, nI_ltI, nI_leI, nI_eqI, pk_sub, true_and, and_true]
        refine hK _ _ _ _ ?_
        have ih := ih (cx + 1) (by omega)
        rw [← cp_s] at ih
        rw [re_vv]
        exact ih
    have := lp (40) 0 (Nat.zero_add _)
    rw [cp_0, re_ve] at this
    exact this
  have lp : ∀ (j i : Nat) (A1 : Nat → Nat → Int32) (z2 : Option Value), i + j = N.length → fa [52, 53, 54] A A1 → (∀ k (h : k < N.length), k < i → A1 52 k = nI N[k].1 ∧ A1 53 k = nI N[k].2.length ∧ sg (A1 54) (40 * k) N[k].2) → rz_T w d 0 0 m_Mod_turnWays 0 0 2 [some (.ref a), some (.int (nI i)), z2] [] (re_put G a I A1) Q := by
    intro j
    induction j with
    | zero =>
      intro i A1 z2 hij hfa hd
      refine rz_blk' [(.iload_n 1, 1, 0, 0), (.aload_n 0, 1, 0, 0), (.getfield 229, 3, 10, 51), (.if_icmp .ge 69, 3, 0, 0)] (by decide +kernel) (Nat.le_refl _) (Nat.le_refl _) (fun K R hK hR => ?_)
      simp only [↓rx_aload_n0, ↓rx_getfield, ↓rx_if_icmp_ge, ↓rx_iload_n1, ↓rx_nil, ↓ry_i2, ↓ry_li0s, ↓ry_li0z, ↓ry_lr0s, ↓ry_lr0z, ↓ry_obu, ↓ry_r1, ↓re_F51, ↓re_ob, n1, rz_set, rz_nol, rz_clr, List.set_cons_zero, List.set_cons_succ, rz_tr, Nat.reduceAdd, Int.reduceAdd, Int.reduceToNat, Int.reduceSub, Int.reduceNeg, Int.cast_ofNat_Int]
      try simp (disch := omega) only [n1, pk_us, pk_un, va_up_self, va_up_ne, nI_add, pk_mul, nI_clamp, vp_inT, nI_ltI, nI_leI, nI_eqI, pk_sub, true_and, and_true]
      refine ⟨fun q3 => hK _ _ _ _ ?_, fun q3 => by omega⟩
      refine rz_blk' [(.aload_n 0, 1, 0, 0), (.aload_n 0, 1, 0, 0), (.getfield 229, 3, 10, 51), (.putfield 232, 3, 10, 50)] (by decide +kernel) (Nat.le_refl _) (Nat.le_refl _) (fun K R hK hR => ?_)
      simp only [List.length_cons, List.length_nil, Nat.reduceLT, rf_10_50, ↓rx_aload_n0, ↓rx_getfield, ↓rx_nil, ↓rx_putfield, ↓ry_lr0s, ↓ry_lr0z, ↓ry_obu, ↓ry_r1, ↓ry_vr, true_and, re_len, re_u50, ↓re_F51, ↓re_ob, n1, rz_set, rz_nol, rz_clr, List.set_cons_zero, List.set_cons_succ, rz_tr, Nat.reduceAdd, Int.reduceAdd, Int.reduceToNat, Int.reduceSub, Int.reduceNeg, Int.cast_ofNat_Int]
      try simp (disch := omega) only [n1, pk_us, pk_un, va_up_self, va_up_ne, nI_add, pk_mul, nI_clamp, vp_inT, nI_ltI, nI_leI, nI_eqI, pk_sub, true_and, and_true]
      refine hK _ _ _ _ ?_
      refine rz_blk' [(.return_, 1, 0, 0)] (by decide +kernel) (Nat.le_refl _) (Nat.le_refl _) (fun K R hK hR => ?_)
      simp only [↓rx_nil, ↓rx_return_, n1, rz_set, rz_nol, rz_clr, List.set_cons_zero, List.set_cons_succ, rz_tr, Nat.reduceAdd, Int.reduceAdd, Int.reduceToNat, Int.reduceSub, Int.reduceNeg, Int.cast_ofNat_Int]
      try simp (disch := omega) only [n1, pk_us, pk_un, va_up_self, va_up_ne, nI_add, pk_mul, nI_clamp, vp_inT, nI_ltI, nI_leI, nI_eqI, pk_sub, true_and, and_true]
      refine hR _ _ (rz_nb_i (by decide)) ?_
      rw [← hQ]
      refine ⟨rfl, _, _, rfl, fi.rf.u rfl, hfa, pk_us, n2, fun k h => ?_⟩
      obtain ⟨y1, y2, y3⟩ := hd k h (by omega)
      exact ⟨y1, y2, y3, (n3 k h).2.2.2⟩
    | succ j ih =>
      intro i A1 z2 hij hfa hd
      have hil : i < N.length := by omega
      obtain ⟨y1, y2, y3, y4, y5, y6⟩ := n3 i hil
      have e55 := hfa 55 rfl
      have e56 := hfa 56 rfl
      have e57 := hfa 57 rfl
      refine rz_blk' [(.iload_n 1, 1, 0, 0), (.aload_n 0, 1, 0, 0), (.getfield 229, 3, 10, 51), (.if_icmp .ge 69, 3, 0, 0)] (by decide +kernel) (Nat.le_refl _) (Nat.le_refl _) (fun K R hK hR => ?_)
      simp only [↓rx_aload_n0, ↓rx_getfield, ↓rx_if_icmp_ge, ↓rx_iload_n1, ↓rx_nil, ↓ry_i2, ↓ry_li0s, ↓ry_li0z, ↓ry_lr0s, ↓ry_lr0z, ↓ry_obu, ↓ry_r1, ↓re_F51, ↓re_ob, n1, e55, e56, y1, y2, rz_set, rz_nol, rz_clr, List.set_cons_zero, List.set_cons_succ, rz_tr, Nat.reduceAdd, Int.reduceAdd, Int.reduceToNat, Int.reduceSub, Int.reduceNeg, Int.cast_ofNat_Int]
      try simp (disch := omega) only [n1, e55, e56, y1, y2, pk_us, pk_un, va_up_self, va_up_ne, nI_add, pk_mul, nI_clamp, vp_inT, nI_ltI, nI_leI, nI_eqI, pk_sub, true_and, and_true]
      refine ⟨fun q4 => by omega, fun q4 => hK _ _ _ _ ?_⟩
      refine rz_blk' [(.aload_n 0, 1, 0, 0), (.getfield 132, 3, 10, 52), (.iload_n 1, 1, 0, 0), (.aload_n 0, 1, 0, 0), (.getfield 141, 3, 10, 55), (.iload_n 1, 1, 0, 0), (.iaload, 1, 0, 0), (.iastore, 1, 0, 0)] (by decide +kernel) (Nat.le_refl _) (Nat.le_refl _) (fun K R hK hR => ?_)
      simp only [↓rx_aload_n0, ↓rx_getfield, ↓rx_iaload, ↓rx_iastore, ↓rx_iload_n1, ↓rx_nil, ↓ry_iau, ↓ry_li0s, ↓ry_li0z, ↓ry_lr0s, ↓ry_lr0z, ↓ry_obu, ↓ry_r1, ↓ry_ri, ↓ry_rii, true_and, re_a52, re_a55, ↓re_F52, ↓re_F55, ↓re_i52, ↓re_i55, ↓re_ob, n1, e55, e56, y1, y2, rz_set, rz_nol, rz_clr, List.set_cons_zero, List.set_cons_succ, rz_tr, Nat.reduceAdd, Int.reduceAdd, Int.reduceToNat, Int.reduceSub, Int.reduceNeg, Int.cast_ofNat_Int]
      try simp (disch := omega) only [n1, e55, e56, y1, y2, pk_us, pk_un, va_up_self, va_up_ne, nI_add, pk_mul, nI_clamp, vp_inT, nI_ltI, nI_leI, nI_eqI, pk_sub, true_and, and_true]
      refine hK _ _ _ _ ?_
      refine rz_blk' [(.aload_n 0, 1, 0, 0), (.getfield 135, 3, 10, 53), (.iload_n 1, 1, 0, 0), (.aload_n 0, 1, 0, 0), (.getfield 144, 3, 10, 56), (.iload_n 1, 1, 0, 0), (.iaload, 1, 0, 0), (.iastore, 1, 0, 0)] (by decide +kernel) (Nat.le_refl _) (Nat.le_refl _) (fun K R hK hR => ?_)
      simp only [↓rx_aload_n0, ↓rx_getfield, ↓rx_iaload, ↓rx_iastore, ↓rx_iload_n1, ↓rx_nil, ↓ry_iau, ↓ry_li0s, ↓ry_li0z, ↓ry_lr0s, ↓ry_lr0z, ↓ry_obu, ↓ry_r1, ↓ry_ri, ↓ry_rii, true_and, re_a53, re_a56, ↓re_F53, ↓re_F56, ↓re_i53, ↓re_i56, ↓re_ob, n1, e55, e56, y1, y2, rz_set, rz_nol, rz_clr, List.set_cons_zero, List.set_cons_succ, rz_tr, Nat.reduceAdd, Int.reduceAdd, Int.reduceToNat, Int.reduceSub, Int.reduceNeg, Int.cast_ofNat_Int]
      try simp (disch := omega) only [n1, e55, e56, y1, y2, pk_us, pk_un, va_up_self, va_up_ne, nI_add, pk_mul, nI_clamp, vp_inT, nI_ltI, nI_leI, nI_eqI, pk_sub, true_and, and_true]
      refine hK _ _ _ _ ?_
      refine rz_blk' [(.iconst 0, 1, 0, 0), (.istore_n 2, 1, 0, 0)] (by decide +kernel) (Nat.le_refl _) (Nat.le_refl _) (fun K R hK hR => ?_)
      simp only [rw_c0, ↓rx_iconst, ↓rx_istore_n2, ↓rx_nil, ↓ry_i1, n1, e55, e56, y1, y2, rz_set, rz_nol, rz_clr, List.set_cons_zero, List.set_cons_succ, rz_tr, Nat.reduceAdd, Int.reduceAdd, Int.reduceToNat, Int.reduceSub, Int.reduceNeg, Int.cast_ofNat_Int]
      try simp (disch := omega) only [n1, e55, e56, y1, y2, pk_us, pk_un, va_up_self, va_up_ne, nI_add, pk_mul, nI_clamp, vp_inT, nI_ltI, nI_leI, nI_eqI, pk_sub, true_and, and_true]
      refine hK _ _ _ _ ?_
      refine c1 _ i (by omega) ?_
      generalize hB : va_up (va_up A1 52 _) 53 _ = B
      generalize hC : va_up B 54 _ = C
      have hB52 : B 52 = upd (A1 52) i (nI N[i].1) := by rw [← hB]; simp [va_up]
      have hB53 : B 53 = upd (A1 53) i (nI N[i].2.length) := by rw [← hB]; simp [va_up]
      have hBo : ∀ f, f ≠ 52 → f ≠ 53 → B f = A1 f := fun f h1 h2 => by rw [← hB, va_up_ne _ _ h2, va_up_ne _ _ h1]
      have hC54 : C 54 = cp (A1 54) (40 * i) (A 57) (40 * i) 40 := by rw [← hC, va_up_self, hBo 54 (by decide) (by decide), hBo 57 (by decide) (by decide), e57]
      have hCo : ∀ f, f ≠ 54 → C f = B f := fun f h1 => by rw [← hC, va_up_ne _ _ h1]
      clear hB hC
      refine rz_blk' [(.iinc 1 1, 3, 0, 0)] (by decide +kernel) (Nat.le_refl _) (Nat.le_refl _) (fun K R hK hR => ?_)
      simp only [rw_c1, ↓rx_iinc, ↓rx_nil, ↓ry_li0s, ↓ry_li0z, rz_set, rz_nol, rz_clr, List.set_cons_zero, List.set_cons_succ, rz_tr, Nat.reduceAdd, Int.reduceAdd, Int.reduceToNat, Int.reduceSub, Int.reduceNeg, Int.cast_ofNat_Int]
      try simp (disch := omega) only [pk_us, pk_un, va_up_self, va_up_ne, nI_add, pk_mul, nI_clamp, vp_inT, nI_ltI, nI_leI, nI_eqI, pk_sub, true_and, and_true]
      refine hK _ _ _ _ ?_
      refine rz_blk' [(.goto (-71), 3, 0, 0)] (by decide +kernel) (Nat.le_refl _) (Nat.le_refl _) (fun K R hK hR => ?_)
      simp only [↓rx_goto, ↓rx_nil, rz_set, rz_nol, rz_clr, List.set_cons_zero, List.set_cons_succ, rz_tr, Nat.reduceAdd, Int.reduceAdd, Int.reduceToNat, Int.reduceSub, Int.reduceNeg, Int.cast_ofNat_Int]
      try simp (disch := omega) only [pk_us, pk_un, va_up_self, va_up_ne, nI_add, pk_mul, nI_clamp, vp_inT, nI_ltI, nI_leI, nI_eqI, pk_sub, true_and, and_true]
      refine hK _ _ _ _ ?_
      refine ih (i + 1) C _ (by omega) (fun f hf => ?_) (fun k h hk => ?_)
      · have h1 : f ≠ 52 := by intro e; subst e; revert hf; decide
        have h2 : f ≠ 53 := by intro e; subst e; revert hf; decide
        have h3 : f ≠ 54 := by intro e; subst e; revert hf; decide
        rw [hCo f h3, hBo f h1 h2]; exact hfa f hf
      · rw [hCo 52 (by decide), hCo 53 (by decide), hB52, hB53, hC54]
        by_cases c : k = i
        · subst c
          rw [pk_us, pk_us]
          exact ⟨rfl, rfl, sg_cp y3 (by omega)⟩
        · rw [pk_un c, pk_un c]
          obtain ⟨x1, x2, x3⟩ := hd k h (by omega)
          have := (n3 k h).2.2.2.2.1
          exact ⟨x1, x2, x3.k (fun x q1 q2 => cp_out (by omega))⟩
  refine rz_enter' [some (.ref a), none, none] (by decide +kernel) rfl rfl (Nat.le_of_ble_eq_true rfl) rfl ?_
  refine rz_blk' [(.iconst 0, 1, 0, 0), (.istore_n 1, 1, 0, 0)] (by decide +kernel) (Nat.le_refl _) (Nat.le_refl _) (fun K R hK hR => ?_)
  simp only [rw_c0, ↓rx_iconst, ↓rx_istore_n1, ↓rx_nil, ↓ry_i1, rz_set, rz_nol, rz_clr, List.set_cons_zero, List.set_cons_succ, rz_tr, Nat.reduceAdd, Int.reduceAdd, Int.reduceToNat, Int.reduceSub, Int.reduceNeg, Int.cast_ofNat_Int]
  try simp (disch := omega) only [pk_us, pk_un, va_up_self, va_up_ne, nI_add, pk_mul, nI_clamp, vp_inT, nI_ltI, nI_leI, nI_eqI, pk_sub, true_and, and_true]
  refine hK _ _ _ _ ?_
  exact lp N.length 0 A _ (Nat.zero_add _) fa.rf (fun k _ hk => absurd hk (Nat.not_lt_zero _))
set_option maxRecDepth 100000 in
set_option maxHeartbeats 400000 in
theorem c_Mod_isBefore {w : rz_w} {d : Nat} {G : rz_G} {a : Nat} {I : Nat → Int32} {A : Nat → Nat → Int32} {W : List (Nat × List Nat)} {p q : Nat} {u v : List Nat} (hW : wy (I 50) (A 52) (A 53) (A 54) W) (hp : W[p]?.map (fun x => x.2) = some u) (hq : W[q]?.map (fun x => x.2) = some v) : rz_C w d 0 0 y_Mod_isBefore m_Mod_isBefore [.ref a, .int (nI p), .int (nI q)] (re_put G a I A) (fun (r : Option Value) (G' : rz_G) => r = some (.int (rz_b (wd_bef u v))) ∧ G' = re_put G a I A) := by
  generalize hQ : (fun (r : Option Value) (G' : rz_G) => r = some (.int (rz_b (wd_bef u v))) ∧ G' = re_put G a I A) = Q
  obtain ⟨w1, w2, w3⟩ := id hW
  have hp1 : p < W.length := by
    by_cases c : p < W.length
    · exact c
    · rw [List.getElem?_eq_none (by omega)] at hp; cases hp
  have hq1 : q < W.length := by
    by_cases c : q < W.length
    · exact c
    · rw [List.getElem?_eq_none (by omega)] at hq; cases hq
  rw [List.getElem?_eq_getElem hp1] at hp
  rw [List.getElem?_eq_getElem hq1] at hq
  have hu : W[p].2 = u := Option.some.inj hp
  have hv : W[q].2 = v := Option.some.inj hq
  obtain ⟨-, p2, p3, -, p5, p6⟩ := w3 p hp1
  obtain ⟨-, q2, q3, -, q5, q6⟩ := w3 q hq1
  rw [hu] at p2 p3 p5 p6
  rw [hv] at q2 q3 q5 q6
  have hend : ∀ i, u.length = v.length → lcpn u v = i → rz_T w d 0 0 m_Mod_isBefore 0 0 79 [some (.ref a), some (.int (nI p)), some (.int (nI q)), some (.int (nI i))] [] (re_put G a I A) Q := by
    intro i hlen hlc
    have hle := lcpn_le u v
    have hbf : wd_bef u v = (match u[i]?, v[i]? with | some x, some y => decide (x < y) | _, _ => false) := by
      unfold wd_bef
      rw [if_neg (by omega), ← lcpn_wd, hlc]
      rfl
    by_cases c : i < u.length
    · have c2 : i < v.length := by omega
      have e1 := p3 i c
      have e2 := q3 i c2
      have x1 := lt8 p6 _ (List.getElem_mem c)
      have x2 := lt8 q6 _ (List.getElem_mem c2)
      rw [List.getElem?_eq_getElem c, List.getElem?_eq_getElem c2] at hbf
      refine rz_blk' [(.iload_n 3, 1, 0, 0), (.aload_n 0, 1, 0, 0), (.getfield 135, 3, 10, 53), (.iload_n 1, 1, 0, 0), (.iaload, 1, 0, 0), (.if_icmp .ge 32, 3, 0, 0)] (by decide +kernel) (Nat.le_refl _) (Nat.le_refl _) (fun K R hK hR => ?_)
      simp only [↓rx_aload_n0, ↓rx_getfield, ↓rx_iaload, ↓rx_if_icmp_ge, ↓rx_iload_n1, ↓rx_iload_n3, ↓rx_nil, ↓ry_i2, ↓ry_iau, ↓ry_li0s, ↓ry_li0z, ↓ry_lr0s, ↓ry_lr0z, ↓ry_obu, ↓ry_r1, ↓ry_ri, true_and, re_a53, ↓re_F53, ↓re_i53, ↓re_ob, p2, e1, e2, rz_set, rz_nol, rz_clr, List.set_cons_zero, List.set_cons_succ, rz_tr, Nat.reduceAdd, Int.reduceAdd, Int.reduceToNat, Int.reduceSub, Int.reduceNeg, Int.cast_ofNat_Int]
      try simp (disch := omega) only [p2, e1, e2, pk_us, pk_un, va_up_self, va_up_ne, nI_add, pk_mul, nI_clamp, vp_inT, nI_ltI, nI_leI, nI_eqI, pk_sub, true_and, and_true]
      refine ⟨fun q1 => by omega, fun q1 => hK _ _ _ _ ?_⟩
      refine rz_blk' [(.aload_n 0, 1, 0, 0), (.getfield 138, 3, 10, 54), (.bipush 40, 2, 0, 0), (.iload_n 1, 1, 0, 0), (.imul, 1, 0, 0), (.iload_n 3, 1, 0, 0), (.iadd, 1, 0, 0), (.iaload, 1, 0, 0), (.aload_n 0, 1, 0, 0), (.getfield 138, 3, 10, 54), (.bipush 40, 2, 0, 0), (.iload_n 2, 1, 0, 0), (.imul, 1, 0, 0), (.iload_n 3, 1, 0, 0), (.iadd, 1, 0, 0), (.iaload, 1, 0, 0), (.if_icmp .ge 7, 3, 0, 0)] (by decide +kernel) (Nat.le_refl _) (Nat.le_refl _) (fun K R hK hR => ?_)
      simp only [rw_b40, ↓rx_aload_n0, ↓rx_bipush, ↓rx_getfield, ↓rx_iadd, ↓rx_iaload, ↓rx_if_icmp_ge, ↓rx_iload_n1, ↓rx_iload_n2, ↓rx_iload_n3, ↓rx_imul, ↓rx_nil, ↓ry_i2, ↓ry_iau, ↓ry_li0s, ↓ry_li0z, ↓ry_lr0s, ↓ry_lr0z, ↓ry_obu, ↓ry_r1, ↓ry_ri, true_and, re_a54, ↓re_F54, ↓re_i54, ↓re_ob, p2, e1, e2, rz_set, rz_nol, rz_clr, List.set_cons_zero, List.set_cons_succ, rz_tr, Nat.reduceAdd, Int.reduceAdd, Int.reduceToNat, Int.reduceSub, Int.reduceNeg, Int.cast_ofNat_Int]
      try simp (disch := omega) only [p2, e1, e2, pk_us, pk_un, va_up_self, va_up_ne, nI_add, pk_mul, nI_clamp, vp_inT, nI_ltI, nI_leI, nI_eqI, pk_sub, true_and, and_true]
      refine ⟨fun q2 => hK _ _ _ _ ?_, fun q2 => hK _ _ _ _ ?_⟩
      · -- 111 taken
        refine rz_blk' [(.iconst 0, 1, 0, 0), (.ireturn, 1, 0, 0)] (by decide +kernel) (Nat.le_refl _) (Nat.le_refl _) (fun K R hK hR => ?_)
        simp only [rw_c0, ↓rx_iconst, ↓rx_ireturn, ↓rx_nil, p2, e1, e2, rz_set, rz_nol, rz_clr, List.set_cons_zero, List.set_cons_succ, rz_tr, Nat.reduceAdd, Int.reduceAdd, Int.reduceToNat, Int.reduceSub, Int.reduceNeg, Int.cast_ofNat_Int]
        try simp (disch := omega) only [p2, e1, e2, pk_us, pk_un, va_up_self, va_up_ne, nI_add, pk_mul, nI_clamp, vp_inT, nI_ltI, nI_leI, nI_eqI, pk_sub, true_and, and_true]
        first
          | exact hR _ _ rz_nb_1 (by rw [← hQ]; exact ⟨by rw [hbf]; simp only; rw [decide_eq_true (by omega)]; rfl, rfl⟩)
          | exact hR _ _ rz_nb_0 (by rw [← hQ]; exact ⟨by rw [hbf]; simp only; rw [decide_eq_false (by omega)]; rfl, rfl⟩)
      · -- 111 not taken
        refine rz_blk' [(.iconst 1, 1, 0, 0), (.goto 4, 3, 0, 0)] (by decide +kernel) (Nat.le_refl _) (Nat.le_refl _) (fun K R hK hR => ?_)
        simp only [rw_c1, ↓rx_goto, ↓rx_iconst, ↓rx_nil, p2, e1, e2, rz_set, rz_nol, rz_clr, List.set_cons_zero, List.set_cons_succ, rz_tr, Nat.reduceAdd, Int.reduceAdd, Int.reduceToNat, Int.reduceSub, Int.reduceNeg, Int.cast_ofNat_Int]
        try simp (disch := omega) only [p2, e1, e2, pk_us, pk_un, va_up_self, va_up_ne, nI_add, pk_mul, nI_clamp, vp_inT, nI_ltI, nI_leI, nI_eqI, pk_sub, true_and, and_true]
        refine hK _ _ _ _ ?_
        refine rz_blk' [(.ireturn, 1, 0, 0)] (by decide +kernel) (Nat.le_refl _) (Nat.le_refl _) (fun K R hK hR => ?_)
        simp only [↓rx_ireturn, ↓rx_nil, p2, e1, e2, rz_set, rz_nol, rz_clr, List.set_cons_zero, List.set_cons_succ, rz_tr, Nat.reduceAdd, Int.reduceAdd, Int.reduceToNat, Int.reduceSub, Int.reduceNeg, Int.cast_ofNat_Int]
        try simp (disch := omega) only [p2, e1, e2, pk_us, pk_un, va_up_self, va_up_ne, nI_add, pk_mul, nI_clamp, vp_inT, nI_ltI, nI_leI, nI_eqI, pk_sub, true_and, and_true]
        first
          | exact hR _ _ rz_nb_1 (by rw [← hQ]; exact ⟨by rw [hbf]; simp only; rw [decide_eq_true (by omega)]; rfl, rfl⟩)
          | exact hR _ _ rz_nb_0 (by rw [← hQ]; exact ⟨by rw [hbf]; simp only; rw [decide_eq_false (by omega)]; rfl, rfl⟩)
    · rw [List.getElem?_eq_none (by omega)] at hbf
      refine rz_blk' [(.iload_n 3, 1, 0, 0), (.aload_n 0, 1, 0, 0), (.getfield 135, 3, 10, 53), (.iload_n 1, 1, 0, 0), (.iaload, 1, 0, 0), (.if_icmp .ge 32, 3, 0, 0)] (by decide +kernel) (Nat.le_refl _) (Nat.le_refl _) (fun K R hK hR => ?_)
      simp only [↓rx_aload_n0, ↓rx_getfield, ↓rx_iaload, ↓rx_if_icmp_ge, ↓rx_iload_n1, ↓rx_iload_n3, ↓rx_nil, ↓ry_i2, ↓ry_iau, ↓ry_li0s, ↓ry_li0z, ↓ry_lr0s, ↓ry_lr0z, ↓ry_obu, ↓ry_r1, ↓ry_ri, true_and, re_a53, ↓re_F53, ↓re_i53, ↓re_ob, p2, rz_set, rz_nol, rz_clr, List.set_cons_zero, List.set_cons_succ, rz_tr, Nat.reduceAdd, Int.reduceAdd, Int.reduceToNat, Int.reduceSub, Int.reduceNeg, Int.cast_ofNat_Int]
      try simp (disch := omega) only [p2, pk_us, pk_un, va_up_self, va_up_ne, nI_add, pk_mul, nI_clamp, vp_inT, nI_ltI, nI_leI, nI_eqI, pk_sub, true_and, and_true]
      refine ⟨fun q3 => hK _ _ _ _ ?_, fun q3 => by omega⟩
      refine rz_blk' [(.iconst 0, 1, 0, 0), (.ireturn, 1, 0, 0)] (by decide +kernel) (Nat.le_refl _) (Nat.le_refl _) (fun K R hK hR => ?_)
      simp only [rw_c0, ↓rx_iconst, ↓rx_ireturn, ↓rx_nil, p2, rz_set, rz_nol, rz_clr, List.set_cons_zero, List.set_cons_succ, rz_tr, Nat.reduceAdd, Int.reduceAdd, Int.reduceToNat, Int.reduceSub, Int.reduceNeg, Int.cast_ofNat_Int]
      try simp (disch := omega) only [p2, pk_us, pk_un, va_up_self, va_up_ne, nI_add, pk_mul, nI_clamp, vp_inT, nI_ltI, nI_leI, nI_eqI, pk_sub, true_and, and_true]
      exact hR _ _ rz_nb_0 (by rw [← hQ]; exact ⟨by rw [hbf]; rfl, rfl⟩)
  have lp : ∀ (j i : Nat), i + j = u.length → u.length = v.length → (∀ k, k < i → u[k]? = v[k]?) → rz_T w d 0 0 m_Mod_isBefore 0 0 38 [some (.ref a), some (.int (nI p)), some (.int (nI q)), some (.int (nI i))] [] (re_put G a I A) Q := by
    intro j
    induction j with
    | zero =>
      intro i hij hlen hk
      refine rz_blk' [(.iload_n 3, 1, 0, 0), (.aload_n 0, 1, 0, 0), (.getfield 135, 3, 10, 53), (.iload_n 1, 1, 0, 0), (.iaload, 1, 0, 0), (.if_icmp .ge 34, 3, 0, 0)] (by decide +kernel) (Nat.le_refl _) (Nat.le_refl _) (fun K R hK hR => ?_)
      simp only [↓rx_aload_n0, ↓rx_getfield, ↓rx_iaload, ↓rx_if_icmp_ge, ↓rx_iload_n1, ↓rx_iload_n3, ↓rx_nil, ↓ry_i2, ↓ry_iau, ↓ry_li0s, ↓ry_li0z, ↓ry_lr0s, ↓ry_lr0z, ↓ry_obu, ↓ry_r1, ↓ry_ri, true_and, re_a53, ↓re_F53, ↓re_i53, ↓re_ob, p2, rz_set, rz_nol, rz_clr, List.set_cons_zero, List.set_cons_succ, rz_tr, Nat.reduceAdd, Int.reduceAdd, Int.reduceToNat, Int.reduceSub, Int.reduceNeg, Int.cast_ofNat_Int]
      try simp (disch := omega) only [p2, pk_us, pk_un, va_up_self, va_up_ne, nI_add, pk_mul, nI_clamp, vp_inT, nI_ltI, nI_leI, nI_eqI, pk_sub, true_and, and_true]
      refine ⟨fun q4 => hK _ _ _ _ ?_, fun q4 => by omega⟩
      exact hend i hlen (lcpn_eq (by omega) (by omega) hk (fun _ _ => by omega))
    | succ j ih =>
      intro i hij hlen hk
      have c : i < u.length := by omega
      have c2 : i < v.length := by omega
      have hcmp := sg_eq p3 q3 (lt8 p6) (lt8 q6) c c2
      refine rz_blk' [(.iload_n 3, 1, 0, 0), (.aload_n 0, 1, 0, 0), (.getfield 135, 3, 10, 53), (.iload_n 1, 1, 0, 0), (.iaload, 1, 0, 0), (.if_icmp .ge 34, 3, 0, 0)] (by decide +kernel) (Nat.le_refl _) (Nat.le_refl _) (fun K R hK hR => ?_)
      simp only [↓rx_aload_n0, ↓rx_getfield, ↓rx_iaload, ↓rx_if_icmp_ge, ↓rx_iload_n1, ↓rx_iload_n3, ↓rx_nil, ↓ry_i2, ↓ry_iau, ↓ry_li0s, ↓ry_li0z, ↓ry_lr0s, ↓ry_lr0z, ↓ry_obu, ↓ry_r1, ↓ry_ri, true_and, re_a53, ↓re_F53, ↓re_i53, ↓re_ob, p2, rz_set, rz_nol, rz_clr, List.set_cons_zero, List.set_cons_succ, rz_tr, Nat.reduceAdd, Int.reduceAdd, Int.reduceToNat, Int.reduceSub, Int.reduceNeg, Int.cast_ofNat_Int]
      try simp (disch := omega) only [p2, hcmp, pk_us, pk_un, va_up_self, va_up_ne, nI_add, pk_mul, nI_clamp, vp_inT, nI_ltI, nI_leI, nI_eqI, pk_sub, true_and, and_true]
      refine ⟨fun q5 => by omega, fun q5 => hK _ _ _ _ ?_⟩
      refine rz_blk' [(.aload_n 0, 1, 0, 0), (.getfield 138, 3, 10, 54), (.bipush 40, 2, 0, 0), (.iload_n 1, 1, 0, 0), (.imul, 1, 0, 0), (.iload_n 3, 1, 0, 0), (.iadd, 1, 0, 0), (.iaload, 1, 0, 0), (.aload_n 0, 1, 0, 0), (.getfield 138, 3, 10, 54), (.bipush 40, 2, 0, 0), (.iload_n 2, 1, 0, 0), (.imul, 1, 0, 0), (.iload_n 3, 1, 0, 0), (.iadd, 1, 0, 0), (.iaload, 1, 0, 0), (.if_icmp .ne 9, 3, 0, 0)] (by decide +kernel) (Nat.le_refl _) (Nat.le_refl _) (fun K R hK hR => ?_)
      simp only [rw_b40, ↓rx_aload_n0, ↓rx_bipush, ↓rx_getfield, ↓rx_iadd, ↓rx_iaload, ↓rx_if_icmp_ne, ↓rx_iload_n1, ↓rx_iload_n2, ↓rx_iload_n3, ↓rx_imul, ↓rx_nil, ↓ry_i2, ↓ry_iau, ↓ry_li0s, ↓ry_li0z, ↓ry_lr0s, ↓ry_lr0z, ↓ry_obu, ↓ry_r1, ↓ry_ri, true_and, re_a54, ↓re_F54, ↓re_i54, ↓re_ob, p2, rz_set, rz_nol, rz_clr, List.set_cons_zero, List.set_cons_succ, rz_tr, Nat.reduceAdd, Int.reduceAdd, Int.reduceToNat, Int.reduceSub, Int.reduceNeg, Int.cast_ofNat_Int]
      try simp (disch := omega) only [p2, hcmp, pk_us, pk_un, va_up_self, va_up_ne, nI_add, pk_mul, nI_clamp, vp_inT, nI_ltI, nI_leI, nI_eqI, pk_sub, true_and, and_true]
      refine ⟨fun q6 => hK _ _ _ _ ?_, fun q6 => hK _ _ _ _ ?_⟩
      · -- 70 taken
        exact hend i hlen (lcpn_eq (by omega) (by omega) hk (fun _ _ => by rw [List.getElem?_eq_getElem c, List.getElem?_eq_getElem c2]; simpa using q6))
      · -- 70 not taken
        refine rz_blk' [(.iinc 3 1, 3, 0, 0)] (by decide +kernel) (Nat.le_refl _) (Nat.le_refl _) (fun K R hK hR => ?_)
        simp only [rw_c1, ↓rx_iinc, ↓rx_nil, ↓ry_li0s, ↓ry_li0z, p2, rz_set, rz_nol, rz_clr, List.set_cons_zero, List.set_cons_succ, rz_tr, Nat.reduceAdd, Int.reduceAdd, Int.reduceToNat, Int.reduceSub, Int.reduceNeg, Int.cast_ofNat_Int]
        try simp (disch := omega) only [p2, hcmp, pk_us, pk_un, va_up_self, va_up_ne, nI_add, pk_mul, nI_clamp, vp_inT, nI_ltI, nI_leI, nI_eqI, pk_sub, true_and, and_true]
        refine hK _ _ _ _ ?_
        refine rz_blk' [(.goto (-38), 3, 0, 0)] (by decide +kernel) (Nat.le_refl _) (Nat.le_refl _) (fun K R hK hR => ?_)
        simp only [↓rx_goto, ↓rx_nil, p2, rz_set, rz_nol, rz_clr, List.set_cons_zero, List.set_cons_succ, rz_tr, Nat.reduceAdd, Int.reduceAdd, Int.reduceToNat, Int.reduceSub, Int.reduceNeg, Int.cast_ofNat_Int]
        try simp (disch := omega) only [p2, hcmp, pk_us, pk_un, va_up_self, va_up_ne, nI_add, pk_mul, nI_clamp, vp_inT, nI_ltI, nI_leI, nI_eqI, pk_sub, true_and, and_true]
        refine hK _ _ _ _ ?_
        refine ih (i + 1) (by omega) hlen (fun k hk2 => ?_)
        by_cases ck : k = i
        · subst ck; rw [List.getElem?_eq_getElem c, List.getElem?_eq_getElem c2]; exact congrArg some (by simpa using q6)
        · exact hk k (by omega)
  refine rz_enter' [some (.ref a), some (.int (nI p)), some (.int (nI q)), none] (by decide +kernel) rfl rfl (Nat.le_of_ble_eq_true rfl) rfl ?_
  refine rz_blk' [(.aload_n 0, 1, 0, 0), (.getfield 135, 3, 10, 53), (.iload_n 1, 1, 0, 0), (.iaload, 1, 0, 0), (.aload_n 0, 1, 0, 0), (.getfield 135, 3, 10, 53), (.iload_n 2, 1, 0, 0), (.iaload, 1, 0, 0), (.if_icmp .eq 24, 3, 0, 0)] (by decide +kernel) (Nat.le_refl _) (Nat.le_refl _) (fun K R hK hR => ?_)
  simp only [↓rx_aload_n0, ↓rx_getfield, ↓rx_iaload, ↓rx_if_icmp_eq, ↓rx_iload_n1, ↓rx_iload_n2, ↓rx_nil, ↓ry_i2, ↓ry_iau, ↓ry_li0s, ↓ry_li0z, ↓ry_lr0s, ↓ry_lr0z, ↓ry_obu, ↓ry_r1, ↓ry_ri, true_and, re_a53, ↓re_F53, ↓re_i53, ↓re_ob, p2, q2, rz_set, rz_nol, rz_clr, List.set_cons_zero, List.set_cons_succ, rz_tr, Nat.reduceAdd, Int.reduceAdd, Int.reduceToNat, Int.reduceSub, Int.reduceNeg, Int.cast_ofNat_Int]
  try simp (disch := omega) only [p2, q2, pk_us, pk_un, va_up_self, va_up_ne, nI_add, pk_mul, nI_clamp, vp_inT, nI_ltI, nI_leI, nI_eqI, pk_sub, true_and, and_true]
  refine ⟨fun q7 => hK _ _ _ _ ?_, fun q7 => hK _ _ _ _ ?_⟩
  · -- 12 taken
    refine rz_blk' [(.iconst 0, 1, 0, 0), (.istore_n 3, 1, 0, 0)] (by decide +kernel) (Nat.le_refl _) (Nat.le_refl _) (fun K R hK hR => ?_)
    simp only [rw_c0, ↓rx_iconst, ↓rx_istore_n3, ↓rx_nil, ↓ry_i1, p2, q2, rz_set, rz_nol, rz_clr, List.set_cons_zero, List.set_cons_succ, rz_tr, Nat.reduceAdd, Int.reduceAdd, Int.reduceToNat, Int.reduceSub, Int.reduceNeg, Int.cast_ofNat_Int]
    try simp (disch := omega) only [p2, q2, pk_us, pk_un, va_up_self, va_up_ne, nI_add, pk_mul, nI_clamp, vp_inT, nI_ltI, nI_leI, nI_eqI, pk_sub, true_and, and_true]
    refine hK _ _ _ _ ?_
    exact lp u.length 0 (Nat.zero_add _) q7 (fun k hk => absurd hk (Nat.not_lt_zero _))
  · -- 12 not taken
    refine rz_blk' [(.aload_n 0, 1, 0, 0), (.getfield 135, 3, 10, 53), (.iload_n 1, 1, 0, 0), (.iaload, 1, 0, 0), (.aload_n 0, 1, 0, 0), (.getfield 135, 3, 10, 53), (.iload_n 2, 1, 0, 0), (.iaload, 1, 0, 0), (.if_icmp .ge 7, 3, 0, 0)] (by decide +kernel) (Nat.le_refl _) (Nat.le_refl _) (fun K R hK hR => ?_)
    simp only [↓rx_aload_n0, ↓rx_getfield, ↓rx_iaload, ↓rx_if_icmp_ge, ↓rx_iload_n1, ↓rx_iload_n2, ↓rx_nil, ↓ry_i2, ↓ry_iau, ↓ry_li0s, ↓ry_li0z, ↓ry_lr0s, ↓ry_lr0z, ↓ry_obu, ↓ry_r1, ↓ry_ri, true_and, re_a53, ↓re_F53, ↓re_i53, ↓re_ob, p2, q2, rz_set, rz_nol, rz_clr, List.set_cons_zero, List.set_cons_succ, rz_tr, Nat.reduceAdd, Int.reduceAdd, Int.reduceToNat, Int.reduceSub, Int.reduceNeg, Int.cast_ofNat_Int]
    try simp (disch := omega) only [p2, q2, pk_us, pk_un, va_up_self, va_up_ne, nI_add, pk_mul, nI_clamp, vp_inT, nI_ltI, nI_leI, nI_eqI, pk_sub, true_and, and_true]
    refine ⟨fun q8 => hK _ _ _ _ ?_, fun q8 => hK _ _ _ _ ?_⟩
    · -- 27 taken
      refine rz_blk' [(.iconst 0, 1, 0, 0), (.ireturn, 1, 0, 0)] (by decide +kernel) (Nat.le_refl _) (Nat.le_refl _) (fun K R hK hR => ?_)
      simp only [rw_c0, ↓rx_iconst, ↓rx_ireturn, ↓rx_nil, p2, q2, rz_set, rz_nol, rz_clr, List.set_cons_zero, List.set_cons_succ, rz_tr, Nat.reduceAdd, Int.reduceAdd, Int.reduceToNat, Int.reduceSub, Int.reduceNeg, Int.cast_ofNat_Int]
      try simp (disch := omega) only [p2, q2, pk_us, pk_un, va_up_self, va_up_ne, nI_add, pk_mul, nI_clamp, vp_inT, nI_ltI, nI_leI, nI_eqI, pk_sub, true_and, and_true]
      first
        | exact hR _ _ rz_nb_1 (by rw [← hQ]; exact ⟨by unfold wd_bef; rw [if_pos q7, decide_eq_true (by omega)]; rfl, rfl⟩)
        | exact hR _ _ rz_nb_0 (by rw [← hQ]; exact ⟨by unfold wd_bef; rw [if_pos q7, decide_eq_false (by omega)]; rfl, rfl⟩)
    · -- 27 not taken
      refine rz_blk' [(.iconst 1, 1, 0, 0), (.goto 4, 3, 0, 0)] (by decide +kernel) (Nat.le_refl _) (Nat.le_refl _) (fun K R hK hR => ?_)
      simp only [rw_c1, ↓rx_goto, ↓rx_iconst, ↓rx_nil, p2, q2, rz_set, rz_nol, rz_clr, List.set_cons_zero, List.set_cons_succ, rz_tr, Nat.reduceAdd, Int.reduceAdd, Int.reduceToNat, Int.reduceSub, Int.reduceNeg, Int.cast_ofNat_Int]
      try simp (disch := omega) only [p2, q2, pk_us, pk_un, va_up_self, va_up_ne, nI_add, pk_mul, nI_clamp, vp_inT, nI_ltI, nI_leI, nI_eqI, pk_sub, true_and, and_true]
      refine hK _ _ _ _ ?_
      refine rz_blk' [(.ireturn, 1, 0, 0)] (by decide +kernel) (Nat.le_refl _) (Nat.le_refl _) (fun K R hK hR => ?_)
      simp only [↓rx_ireturn, ↓rx_nil, p2, q2, rz_set, rz_nol, rz_clr, List.set_cons_zero, List.set_cons_succ, rz_tr, Nat.reduceAdd, Int.reduceAdd, Int.reduceToNat, Int.reduceSub, Int.reduceNeg, Int.cast_ofNat_Int]
      try simp (disch := omega) only [p2, q2, pk_us, pk_un, va_up_self, va_up_ne, nI_add, pk_mul, nI_clamp, vp_inT, nI_ltI, nI_leI, nI_eqI, pk_sub, true_and, and_true]
      first
        | exact hR _ _ rz_nb_1 (by rw [← hQ]; exact ⟨by unfold wd_bef; rw [if_pos q7, decide_eq_true (by omega)]; rfl, rfl⟩)
        | exact hR _ _ rz_nb_0 (by rw [← hQ]; exact ⟨by unfold wd_bef; rw [if_pos q7, decide_eq_false (by omega)]; rfl, rfl⟩)
