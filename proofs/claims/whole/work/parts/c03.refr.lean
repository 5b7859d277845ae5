/-! the reference once more, with the form of its answers -/
set_option maxRecDepth 100000 in
set_option maxHeartbeats 4000000 in
theorem cr_Mod_read {w : rz_w} {d : Nat} {G : rz_G} {a : Nat} {I : Nat → Int32} {A : Nat → Nat → Int32} {V : dk_V} (h : rf I A V) (x yn u yk : Int32) : rz_C w (d + 3) 0 0 y_Mod_read m_Mod_read [.ref a, .int x, .int yn, .int u, .int yk] (re_put G a I A) (fun (r : Option Value) (G' : rz_G) => (∃ v, r = some (.int v)) ∧ (rv G a V (fun r V' => ∃ k n W, k < 6 ∧ n ≤ 10 ∧ x = nI k ∧ yn = nI n ∧ dk_rok yn u ∧ rr_k (tk (V.1 k)) (dk_let u.toBitVec.toNat) n = some W ∧ r = some (.int (nI (rr_f (tk (V.1 k)) W).length)) ∧ V' = dk_ur V (rd_out (rr_f (tk (V.1 k)) W) yk (rr_f (tk (V.1 k)) W).length)) (fun c => (c = 1 ∧ dk_no x) ∨ ∃ k, k < 6 ∧ x = nI k ∧ ((c = 2 ∧ ¬ dk_rok yn u) ∨ (c = 3 ∧ ∃ n, n ≤ 10 ∧ yn = nI n ∧ dk_rok yn u ∧ rr_k (tk (V.1 k)) (dk_let u.toBitVec.toNat) n = none)))) r G') := by
  generalize hQ : (fun (r : Option Value) (G' : rz_G) => (∃ v, r = some (.int v)) ∧ (rv G a V (fun r V' => ∃ k n W, k < 6 ∧ n ≤ 10 ∧ x = nI k ∧ yn = nI n ∧ dk_rok yn u ∧ rr_k (tk (V.1 k)) (dk_let u.toBitVec.toNat) n = some W ∧ r = some (.int (nI (rr_f (tk (V.1 k)) W).length)) ∧ V' = dk_ur V (rd_out (rr_f (tk (V.1 k)) W) yk (rr_f (tk (V.1 k)) W).length)) (fun c => (c = 1 ∧ dk_no x) ∨ ∃ k, k < 6 ∧ x = nI k ∧ ((c = 2 ∧ ¬ dk_rok yn u) ∨ (c = 3 ∧ ∃ n, n ≤ 10 ∧ yn = nI n ∧ dk_rok yn u ∧ rr_k (tk (V.1 k)) (dk_let u.toBitVec.toNat) n = none)))) r G') = Q
  refine rz_enter' [some (.ref a), some (.int x), some (.int yn), some (.int u), some (.int yk), none, none, none] (by decide +kernel) rfl rfl (Nat.le_of_ble_eq_true rfl) rfl ?_
  refine rz_blk' [(.aload_n 0, 1, 0, 0), (.iload_n 1, 1, 0, 0)] (by decide +kernel) (Nat.le_refl _) (Nat.le_refl _) (fun K R hK hR => ?_)
  simp only [↓rx_aload_n0, ↓rx_iload_n1, ↓rx_nil, ↓ry_li0s, ↓ry_li0z, ↓ry_lr0s, ↓ry_lr0z, rz_set, rz_nol, rz_clr, List.set_cons_zero, List.set_cons_succ, rz_tr, Nat.reduceAdd, Int.reduceAdd, Int.reduceToNat, Int.reduceSub, Int.reduceNeg, Int.cast_ofNat_Int]
  try simp (disch := omega) only [pk_us, pk_un, va_up_self, va_up_ne, nI_add, pk_mul, nI_clamp, vp_inT, nI_ltI, nI_leI, nI_eqI, pk_sub, true_and, and_true]
  refine hK _ _ _ _ ?_
  refine rz_cV (As := [.int x]) (b := a) (S := []) l_Mod_214 (by decide +kernel) rfl re_at0 rfl (Nat.le_of_ble_eq_true rfl) (Nat.le_refl _) (Nat.le_refl _) (c_Mod_isMachine _) (fun r G' hr => ?_)
  rcases hr with ⟨k, hk, rfl, rfl, hg⟩ | ⟨hno, rfl, hg⟩
  rotate_left
  · subst hg
    simp only [Option.toList, List.cons_append, List.nil_append]
    refine rz_blk' [(.ifCond .ne 5, 3, 0, 0)] (by decide +kernel) (Nat.le_refl _) (Nat.le_refl _) (fun K R hK hR => ?_)
    simp only [↓rx_ifCond_ne, ↓rx_nil, ↓ry_i1, rz_set, rz_nol, rz_clr, List.set_cons_zero, List.set_cons_succ, rz_tr, Nat.reduceAdd, Int.reduceAdd, Int.reduceToNat, Int.reduceSub, Int.reduceNeg, Int.cast_ofNat_Int]
    try simp (disch := omega) only [pk_us, pk_un, va_up_self, va_up_ne, nI_add, pk_mul, nI_clamp, vp_inT, nI_ltI, nI_leI, nI_eqI, pk_sub, true_and, and_true]
    refine ⟨fun q1 => absurd rfl q1, fun q1 => hK _ _ _ _ ?_⟩
    refine rz_blk' [(.iconst 0, 1, 0, 0), (.ireturn, 1, 0, 0)] (by decide +kernel) (Nat.le_refl _) (Nat.le_refl _) (fun K R hK hR => ?_)
    simp only [rw_c0, ↓rx_iconst, ↓rx_ireturn, ↓rx_nil, rz_set, rz_nol, rz_clr, List.set_cons_zero, List.set_cons_succ, rz_tr, Nat.reduceAdd, Int.reduceAdd, Int.reduceToNat, Int.reduceSub, Int.reduceNeg, Int.cast_ofNat_Int]
    try simp (disch := omega) only [pk_us, pk_un, va_up_self, va_up_ne, nI_add, pk_mul, nI_clamp, vp_inT, nI_ltI, nI_leI, nI_eqI, pk_sub, true_and, and_true]
    exact hR _ _ (rz_nb_i (by decide)) (by rw [← hQ]; refine ⟨⟨_, by first | rfl | assumption⟩, ?_⟩; exact rv_e h 1 (by decide) (by decide) (Or.inl ⟨rfl, hno⟩))
  subst hg
  simp only [Option.toList, List.cons_append, List.nil_append]
  have hnk : ¬ dk_no (nI k) := fun q => q k hk rfl
  have hm := h.1 k hk
  obtain ⟨m1, m2, m3, m4, m5, m6, m7, m8, m9, m10, m11⟩ := id hm
  have hwf := re_m_wf hm
  have htw := tk_tw hwf
  have hnrok : ∀ c, c = 2 → ¬ dk_rok yn u → ∀ (I1 : Nat → Int32), rf I1 A V → Q (some (.int 0)) (re_put G a (upd I1 0 (nI c)) A) := fun c hc hn I1 h1 => by
    subst hc
    rw [← hQ]; refine ⟨⟨_, by first | rfl | assumption⟩, ?_⟩; exact rv_e h1 2 (by decide) (by decide) (Or.inr ⟨k, hk, rfl, Or.inl ⟨rfl, hn⟩⟩)
  generalize hT : tk (V.1 k) = T at *
  have hgo : ∀ n, n ≤ 10 → yn = nI n → (∀ i, i < n → dk_let u.toBitVec.toNat i < 3) → rz_T w (d + 3) 0 0 m_Mod_read 0 0 59 [some (.ref a), some (.int (nI k)), some (.int (nI n)), some (.int u), some (.int yk), some (.int (nI n)), none, none] [] (re_put G a (upd I 0 (nI 0)) A) Q := by
    intro n hn10 hyn hlet
    have hrok : dk_rok yn u := ⟨n, hn10, hyn, hlet⟩
    have hend : ∀ (W : List (Nat × List Nat)) (O : List (Nat × List Nat)), rr_k T (dk_let u.toBitVec.toNat) n = some W → O = rr_f T W → ∀ (j i : Nat) (Rs : List Nat) (I1 : Nat → Int32) (A1 : Nat → Nat → Int32) (z6 z7 : Option Value), i + j = O.length → Rs = rd_out O yk i → I1 0 = nI 0 → wy (I1 50) (A1 52) (A1 53) (A1 54) O → (∀ l, (l = 46 ∨ 67 ≤ l) → l < 70 → I1 l = I l) → (∀ l, l < 13 → A1 l = A l) → (∀ l, 70 ≤ l → l < 76 → A1 l = A l) → I1 12 = nI Rs.length → sg (A1 13) 0 Rs → Rs.length ≤ 36 → rz_T w (d + 3) 0 0 m_Mod_read 0 0 351 [some (.ref a), some (.int (nI k)), some (.int (nI n)), some (.int u), some (.int yk), some (.int (nI i)), z6, z7] [] (re_put G a I1 A1) Q := by
      intro W O hW hO j
      induction j with
      | zero =>
        intro i Rs I1 A1 z6 z7 hij hR1 h0 hwy hI hA1 hA2 h12 h13 hl
        obtain ⟨w1, w2, w3⟩ := id hwy
        refine rz_blk' [(.iload 5, 2, 0, 0), (.aload_n 0, 1, 0, 0), (.getfield 232, 3, 10, 50), (.if_icmp .ge 107, 3, 0, 0)] (by decide +kernel) (Nat.le_refl _) (Nat.le_refl _) (fun K R hK hR => ?_)
        simp only [↓rx_aload_n0, ↓rx_getfield, ↓rx_if_icmp_ge, ↓rx_iload, ↓rx_nil, ↓ry_i2, ↓ry_li0s, ↓ry_li0z, ↓ry_lr0s, ↓ry_lr0z, ↓ry_obu, ↓ry_r1, ↓re_F50, ↓re_ob, w1, rz_set, rz_nol, rz_clr, List.set_cons_zero, List.set_cons_succ, rz_tr, Nat.reduceAdd, Int.reduceAdd, Int.reduceToNat, Int.reduceSub, Int.reduceNeg, Int.cast_ofNat_Int]
        try simp (disch := omega) only [w1, pk_us, pk_un, va_up_self, va_up_ne, nI_add, pk_mul, nI_clamp, vp_inT, nI_ltI, nI_leI, nI_eqI, pk_sub, true_and, and_true]
        refine ⟨fun q21 => hK _ _ _ _ ?_, fun q21 => by omega⟩
        refine rz_blk' [(.aload_n 0, 1, 0, 0), (.getfield 232, 3, 10, 50), (.ireturn, 1, 0, 0)] (by decide +kernel) (Nat.le_refl _) (Nat.le_refl _) (fun K R hK hR => ?_)
        simp only [↓rx_aload_n0, ↓rx_getfield, ↓rx_ireturn, ↓rx_nil, ↓ry_lr0s, ↓ry_lr0z, ↓ry_obu, ↓ry_r1, ↓re_F50, ↓re_ob, w1, rz_set, rz_nol, rz_clr, List.set_cons_zero, List.set_cons_succ, rz_tr, Nat.reduceAdd, Int.reduceAdd, Int.reduceToNat, Int.reduceSub, Int.reduceNeg, Int.cast_ofNat_Int]
        try simp (disch := omega) only [w1, pk_us, pk_un, va_up_self, va_up_ne, nI_add, pk_mul, nI_clamp, vp_inT, nI_ltI, nI_leI, nI_eqI, pk_sub, true_and, and_true]
        refine hR _ _ (rz_nb_i (by decide)) ?_
        rw [← hQ]; refine ⟨⟨_, by first | rfl | assumption⟩, ?_⟩
        refine rv_f (V' := dk_ur V Rs) h0 ⟨fun k hk => re_m_keep (h.1 k hk) (fun f x ho => by rw [hA1 f (by unfold re_own at ho; omega)]), ⟨h12, h13, show Rs.length ≤ 4096 by omega⟩, re_w_keep h.2.2 hI hA2⟩ ⟨k, n, W, hk, hn10, rfl, hyn, hrok, by rw [hT]; exact hW, by rw [hT, ← hO], ?_⟩
        rw [hT, ← hO, hR1]
        have : i = O.length := by omega
        rw [this]
      | succ j ih =>
        intro i Rs I1 A1 z6 z7 hij hR1 h0 hwy hI hA1 hA2 h12 h13 hl
        obtain ⟨w1, w2, w3⟩ := id hwy
        have hiO : i < O.length := by omega
        obtain ⟨i1, i2, i3, i4, i5, i6⟩ := w3 i hiO
        have hstep : rd_out O yk (i + 1) = if nI (rd_bef O O[i].2) = yk then O[i].2 else Rs := by
          rw [hR1]; simp only [rd_out, List.getElem?_eq_getElem hiO]
        have hnext : ∀ (R' : List Nat) (I2 : Nat → Int32) (A2 : Nat → Nat → Int32) (z6 z7 : Option Value), R' = rd_out O yk (i + 1) → I2 0 = nI 0 → wy (I2 50) (A2 52) (A2 53) (A2 54) O → (∀ l, (l = 46 ∨ 67 ≤ l) → l < 70 → I2 l = I l) → (∀ l, l < 13 → A2 l = A l) → (∀ l, 70 ≤ l → l < 76 → A2 l = A l) → I2 12 = nI R'.length → sg (A2 13) 0 R' → R'.length ≤ 36 → rz_T w (d + 3) 0 0 m_Mod_read 0 0 458 [some (.ref a), some (.int (nI k)), some (.int (nI n)), some (.int u), some (.int yk), some (.int (nI i)), z6, z7] [] (re_put G a I2 A2) Q := by
          intro R' I2 A2 z6 z7 e1 e2 e3 e4 e5 e6 e7 e8 e9
          refine rz_blk' [(.iinc 5 1, 3, 0, 0)] (by decide +kernel) (Nat.le_refl _) (Nat.le_refl _) (fun K R hK hR => ?_)
          simp only [rw_c1, ↓rx_iinc, ↓rx_nil, ↓ry_li0s, ↓ry_li0z, rz_set, rz_nol, rz_clr, List.set_cons_zero, List.set_cons_succ, rz_tr, Nat.reduceAdd, Int.reduceAdd, Int.reduceToNat, Int.reduceSub, Int.reduceNeg, Int.cast_ofNat_Int]
          try simp (disch := omega) only [pk_us, pk_un, va_up_self, va_up_ne, nI_add, pk_mul, nI_clamp, vp_inT, nI_ltI, nI_leI, nI_eqI, pk_sub, true_and, and_true]
          refine hK _ _ _ _ ?_
          refine rz_blk' [(.goto (-110), 3, 0, 0)] (by decide +kernel) (Nat.le_refl _) (Nat.le_refl _) (fun K R hK hR => ?_)
          simp only [↓rx_goto, ↓rx_nil, rz_set, rz_nol, rz_clr, List.set_cons_zero, List.set_cons_succ, rz_tr, Nat.reduceAdd, Int.reduceAdd, Int.reduceToNat, Int.reduceSub, Int.reduceNeg, Int.cast_ofNat_Int]
          try simp (disch := omega) only [pk_us, pk_un, va_up_self, va_up_ne, nI_add, pk_mul, nI_clamp, vp_inT, nI_ltI, nI_leI, nI_eqI, pk_sub, true_and, and_true]
          refine hK _ _ _ _ ?_
          exact ih (i + 1) R' _ _ _ _ (by omega) e1 e2 e3 e4 e5 e6 e7 e8 e9
        have cr : ∀ (B : Nat → Nat → Int32) (I2 : Nat → Int32) (y6 : Int32), I2 12 = nI O[i].2.length → rz_T w (d + 3) 0 0 m_Mod_read 0 0 458 [some (.ref a), some (.int (nI k)), some (.int (nI n)), some (.int u), some (.int yk), some (.int (nI i)), some (.int y6), some (.int (nI (O[i].2.length)))] [] (re_put G a I2 (va_up B 13 (cp (B 13) (0) (B 54) (40 * i) (O[i].2.length)))) Q → rz_T w (d + 3) 0 0 m_Mod_read 0 0 423 [some (.ref a), some (.int (nI k)), some (.int (nI n)), some (.int u), some (.int yk), some (.int (nI i)), some (.int y6), some (.int (nI 0))] [] (re_put G a I2 B) Q := by
          intro B I2 y6 hi2 hx
          have lp : ∀ (cj cx : Nat), cx + cj = O[i].2.length → rz_T w (d + 3) 0 0 m_Mod_read 0 0 423 [some (.ref a), some (.int (nI k)), some (.int (nI n)), some (.int u), some (.int yk), some (.int (nI i)), some (.int y6), some (.int (nI cx))] [] (re_put G a I2 (va_up B 13 (cp (B 13) (0) (B 54) (40 * i) cx))) Q := by
            intro cj
            induction cj with
            | zero =>
              intro cx hij
              have hi : cx = O[i].2.length := by omega
              subst hi
              refine rz_blk' [(.iload 7, 2, 0, 0), (.aload_n 0, 1, 0, 0), (.getfield 246, 3, 10, 12), (.if_icmp .ge 29, 3, 0, 0)] (by decide +kernel) (Nat.le_refl _) (Nat.le_refl _) (fun K R hK hR => ?_)
              simp only [↓rx_aload_n0, ↓rx_getfield, ↓rx_if_icmp_ge, ↓rx_iload, ↓rx_nil, ↓ry_i2, ↓ry_li0s, ↓ry_li0z, ↓ry_lr0s, ↓ry_lr0z, ↓ry_obu, ↓ry_r1, ↓re_F12, ↓re_ob, hi2, rz_set, rz_nol, rz_clr, List.set_cons_zero, List.set_cons_succ, rz_tr, Nat.reduceAdd, Int.reduceAdd, Int.reduceToNat, Int.reduceSub, Int.reduceNeg, Int.cast_ofNat_Int]
              try simp (disch := omega) only [hi2, pk_us, pk_un, va_up_self, va_up_ne, nI_add, pk_mul, nI_clamp, vp_inT, nI_ltI, nI_leI, nI_eqI, pk_sub, true_and, and_true]
              refine ⟨fun q22 => hK _ _ _ _ ?_, fun q22 => by omega⟩
              exact hx
            | succ cj ih =>
              intro cx hij
              refine rz_blk' [(.iload 7, 2, 0, 0), (.aload_n 0, 1, 0, 0), (.getfield 246, 3, 10, 12), (.if_icmp .ge 29, 3, 0, 0)] (by decide +kernel) (Nat.le_refl _) (Nat.le_refl _) (fun K R hK hR => ?_)
              simp only [↓rx_aload_n0, ↓rx_getfield, ↓rx_if_icmp_ge, ↓rx_iload, ↓rx_nil, ↓ry_i2, ↓ry_li0s, ↓ry_li0z, ↓ry_lr0s, ↓ry_lr0z, ↓ry_obu, ↓ry_r1, ↓re_F12, ↓re_ob, hi2, rz_set, rz_nol, rz_clr, List.set_cons_zero, List.set_cons_succ, rz_tr, Nat.reduceAdd, Int.reduceAdd, Int.reduceToNat, Int.reduceSub, Int.reduceNeg, Int.cast_ofNat_Int]
              try simp (disch := omega) only [hi2, pk_us, pk_un, va_up_self, va_up_ne, nI_add, pk_mul, nI_clamp, vp_inT, nI_ltI, nI_leI, nI_eqI, pk_sub, true_and, and_true]
              refine ⟨fun q23 => by omega, fun q23 => hK _ _ _ _ ?_⟩
              refine rz_blk' [(.aload_n 0, 1, 0, 0), (.getfield 43, 3, 10, 13), (.iload 7, 2, 0, 0), (.aload_n 0, 1, 0, 0), (.getfield 138, 3, 10, 54), (.bipush 40, 2, 0, 0), (.iload 5, 2, 0, 0), (.imul, 1, 0, 0), (.iload 7, 2, 0, 0), (.iadd, 1, 0, 0), (.iaload, 1, 0, 0), (.iastore, 1, 0, 0)] (by decide +kernel) (Nat.le_refl _) (Nat.le_refl _) (fun K R hK hR => ?_)
              simp only [rw_b40, ↓rx_aload_n0, ↓rx_bipush, ↓rx_getfield, ↓rx_iadd, ↓rx_iaload, ↓rx_iastore, ↓rx_iload, ↓rx_imul, ↓rx_nil, ↓ry_i2, ↓ry_iau, ↓ry_li0s, ↓ry_li0z, ↓ry_lr0s, ↓ry_lr0z, ↓ry_obu, ↓ry_r1, ↓ry_ri, ↓ry_rii, true_and, re_a13, re_a54, ↓re_F13, ↓re_F54, ↓re_i13, ↓re_i54, ↓re_ob, hi2, rz_set, rz_nol, rz_clr, List.set_cons_zero, List.set_cons_succ, rz_tr, Nat.reduceAdd, Int.reduceAdd, Int.reduceToNat, Int.reduceSub, Int.reduceNeg, Int.cast_ofNat_Int]
              try simp (disch := omega) only [hi2, pk_us, pk_un, va_up_self, va_up_ne, nI_add, pk_mul, nI_clamp, vp_inT, nI_ltI, nI_leI, nI_eqI, pk_sub, true_and, and_true]
              refine hK _ _ _ _ ?_
              refine rz_blk' [(.iinc 7 1, 3, 0, 0)] (by decide +kernel) (Nat.le_refl _) (Nat.le_refl _) (fun K R hK hR => ?_)
              simp only [rw_c1, ↓rx_iinc, ↓rx_nil, ↓ry_li0s, ↓ry_li0z, hi2, rz_set, rz_nol, rz_clr, List.set_cons_zero, List.set_cons_succ, rz_tr, Nat.reduceAdd, Int.reduceAdd, Int.reduceToNat, Int.reduceSub, Int.reduceNeg, Int.cast_ofNat_Int]
              try simp (disch := omega) only [hi2, pk_us, pk_un, va_up_self, va_up_ne, nI_add, pk_mul, nI_clamp, vp_inT, nI_ltI, nI_leI, nI_eqI, pk_sub, true_and, and_true]
              refine hK _ _ _ _ ?_
              refine rz_blk' [(.goto (-32), 3, 0, 0)] (by decide +kernel) (Nat.le_refl _) (Nat.le_refl _) (fun K R hK hR => ?_)
              simp only [↓rx_goto, ↓rx_nil, hi2, rz_set, rz_nol, rz_clr, List.set_cons_zero, List.set_cons_succ, rz_tr, Nat.reduceAdd, Int.reduceAdd, Int.reduceToNat, Int.reduceSub, Int.reduceNeg, Int.cast_ofNat_Int]
              try simp (disch := omega) only [hi2, pk_us, pk_un, va_up_self, va_up_ne, nI_add, pk_mul, nI_clamp, vp_inT, nI_ltI, nI_leI, nI_eqI, pk_sub, true_and, and_true]
              refine hK _ _ _ _ ?_
              have ih := ih (cx + 1) (by omega)
              rw [← cp_s] at ih
              simp only [Nat.zero_add] at ih
              rw [re_vv]
              exact ih
          have := lp (O[i].2.length) 0 (Nat.zero_add _)
          rw [cp_0, re_ve] at this
          exact this
        have rl : ∀ (jj b : Nat) (z7 : Option Value), b + jj = O.length → rz_T w (d + 3) 0 0 m_Mod_read 0 0 366 [some (.ref a), some (.int (nI k)), some (.int (nI n)), some (.int u), some (.int yk), some (.int (nI i)), some (.int (nI ((O.take b).countP (fun v => wd_bef v.2 O[i].2)))), some (.int (nI b))] [] (re_put G a I1 A1) Q := by
          intro jj
          induction jj with
          | zero =>
            intro b z7 hbj
            have hb : b = O.length := by omega
            subst hb
            rw [List.take_length]
            have hrb : O.countP (fun v => wd_bef v.2 O[i].2) = rd_bef O O[i].2 := rfl
            rw [hrb]
            refine rz_blk' [(.iload 7, 2, 0, 0), (.aload_n 0, 1, 0, 0), (.getfield 232, 3, 10, 50), (.if_icmp .ge 30, 3, 0, 0)] (by decide +kernel) (Nat.le_refl _) (Nat.le_refl _) (fun K R hK hR => ?_)
            simp only [↓rx_aload_n0, ↓rx_getfield, ↓rx_if_icmp_ge, ↓rx_iload, ↓rx_nil, ↓ry_i2, ↓ry_li0s, ↓ry_li0z, ↓ry_lr0s, ↓ry_lr0z, ↓ry_obu, ↓ry_r1, ↓re_F50, ↓re_ob, w1, i2, rz_set, rz_nol, rz_clr, List.set_cons_zero, List.set_cons_succ, rz_tr, Nat.reduceAdd, Int.reduceAdd, Int.reduceToNat, Int.reduceSub, Int.reduceNeg, Int.cast_ofNat_Int]
            try simp (disch := omega) only [w1, i2, pk_us, pk_un, va_up_self, va_up_ne, nI_add, pk_mul, nI_clamp, vp_inT, nI_ltI, nI_leI, nI_eqI, pk_sub, true_and, and_true]
            refine ⟨fun q24 => hK _ _ _ _ ?_, fun q24 => by omega⟩
            refine rz_blk' [(.iload 6, 2, 0, 0), (.iload 4, 2, 0, 0), (.if_icmp .ne 52, 3, 0, 0)] (by decide +kernel) (Nat.le_refl _) (Nat.le_refl _) (fun K R hK hR => ?_)
            simp only [↓rx_if_icmp_ne, ↓rx_iload, ↓rx_nil, ↓ry_i2, ↓ry_li0s, ↓ry_li0z, w1, i2, rz_set, rz_nol, rz_clr, List.set_cons_zero, List.set_cons_succ, rz_tr, Nat.reduceAdd, Int.reduceAdd, Int.reduceToNat, Int.reduceSub, Int.reduceNeg, Int.cast_ofNat_Int]
            try simp (disch := omega) only [w1, i2, pk_us, pk_un, va_up_self, va_up_ne, nI_add, pk_mul, nI_clamp, vp_inT, nI_ltI, nI_leI, nI_eqI, pk_sub, true_and, and_true]
            
            refine ⟨fun q25 => hK _ _ _ _ ?_, fun q25 => hK _ _ _ _ ?_⟩
            · -- 406 taken
              refine hnext Rs I1 A1 _ _ ?_ h0 hwy hI hA1 hA2 h12 h13 hl
              rw [hstep, if_neg q25]
            · -- 406 not taken
              refine rz_blk' [(.aload_n 0, 1, 0, 0), (.aload_n 0, 1, 0, 0), (.getfield 135, 3, 10, 53), (.iload 5, 2, 0, 0), (.iaload, 1, 0, 0), (.putfield 246, 3, 10, 12)] (by decide +kernel) (Nat.le_refl _) (Nat.le_refl _) (fun K R hK hR => ?_)
              simp only [List.length_cons, List.length_nil, Nat.reduceLT, rf_10_12, ↓rx_aload_n0, ↓rx_getfield, ↓rx_iaload, ↓rx_iload, ↓rx_nil, ↓rx_putfield, ↓ry_iau, ↓ry_li0s, ↓ry_li0z, ↓ry_lr0s, ↓ry_lr0z, ↓ry_obu, ↓ry_r1, ↓ry_ri, ↓ry_vr, true_and, re_a53, re_len, re_u12, ↓re_F53, ↓re_i53, ↓re_ob, w1, i2, rz_set, rz_nol, rz_clr, List.set_cons_zero, List.set_cons_succ, rz_tr, Nat.reduceAdd, Int.reduceAdd, Int.reduceToNat, Int.reduceSub, Int.reduceNeg, Int.cast_ofNat_Int]
              try simp (disch := omega) only [w1, i2, pk_us, pk_un, va_up_self, va_up_ne, nI_add, pk_mul, nI_clamp, vp_inT, nI_ltI, nI_leI, nI_eqI, pk_sub, true_and, and_true]
              refine hK _ _ _ _ ?_
              refine rz_blk' [(.iconst 0, 1, 0, 0), (.istore 7, 2, 0, 0)] (by decide +kernel) (Nat.le_refl _) (Nat.le_refl _) (fun K R hK hR => ?_)
              simp only [rw_c0, ↓rx_iconst, ↓rx_istore, ↓rx_nil, ↓ry_i1, w1, i2, rz_set, rz_nol, rz_clr, List.set_cons_zero, List.set_cons_succ, rz_tr, Nat.reduceAdd, Int.reduceAdd, Int.reduceToNat, Int.reduceSub, Int.reduceNeg, Int.cast_ofNat_Int]
              try simp (disch := omega) only [w1, i2, pk_us, pk_un, va_up_self, va_up_ne, nI_add, pk_mul, nI_clamp, vp_inT, nI_ltI, nI_leI, nI_eqI, pk_sub, true_and, and_true]
              refine hK _ _ _ _ ?_
              refine cr _ _ _ (by rw [pk_us]) ?_
              refine hnext O[i].2 _ _ _ _ ?_ ?_ ?_ (fun l h1 h2 => ?_) (fun l hl => ?_) (fun l h1 h2 => ?_) pk_us ?_ i5
              · rw [hstep, if_pos (by simpa using q25)]
              · rw [pk_un (by decide)]; exact h0
              · rw [pk_un (by decide), va_up_ne _ _ (by decide), va_up_ne _ _ (by decide), va_up_ne _ _ (by decide)]; exact hwy
              · rw [pk_un (by omega)]; exact hI l h1 h2
              · rw [va_up_ne _ _ (by omega)]; exact hA1 l hl
              · rw [va_up_ne _ _ (by omega)]; exact hA2 l h1 h2
              · rw [va_up_self]; exact sg_cp i3 (Nat.le_refl _)
          | succ jj ihb =>
            intro b z7 hbj
            have hbO : b < O.length := by omega
            have hc : (O.take (b + 1)).countP (fun v => wd_bef v.2 O[i].2) = (O.take b).countP (fun v => wd_bef v.2 O[i].2) + (if wd_bef O[b].2 O[i].2 then 1 else 0) := by
              rw [List.take_succ_eq_append_getElem hbO, List.countP_append]; simp [List.countP_cons]
            have ihb := ihb (b + 1) none (by omega)
            rw [hc] at ihb
            have hcl := c_Mod_isBefore (w := w) (d := d + 2) (G := G) (a := a) (p := b) (q := i) (u := O[b].2) (v := O[i].2) hwy (by rw [List.getElem?_eq_getElem hbO]; rfl) (by rw [List.getElem?_eq_getElem hiO]; rfl)
            cases hbf : wd_bef O[b].2 O[i].2 with
            | true =>
              rw [hbf] at hcl ihb
              refine rz_blk' [(.iload 7, 2, 0, 0), (.aload_n 0, 1, 0, 0), (.getfield 232, 3, 10, 50), (.if_icmp .ge 30, 3, 0, 0)] (by decide +kernel) (Nat.le_refl _) (Nat.le_refl _) (fun K R hK hR => ?_)
              simp only [↓rx_aload_n0, ↓rx_getfield, ↓rx_if_icmp_ge, ↓rx_iload, ↓rx_nil, ↓ry_i2, ↓ry_li0s, ↓ry_li0z, ↓ry_lr0s, ↓ry_lr0z, ↓ry_obu, ↓ry_r1, ↓re_F50, ↓re_ob, w1, rz_set, rz_nol, rz_clr, List.set_cons_zero, List.set_cons_succ, rz_tr, Nat.reduceAdd, Int.reduceAdd, Int.reduceToNat, Int.reduceSub, Int.reduceNeg, Int.cast_ofNat_Int]
              try simp (disch := omega) only [w1, pk_us, pk_un, va_up_self, va_up_ne, nI_add, pk_mul, nI_clamp, vp_inT, nI_ltI, nI_leI, nI_eqI, pk_sub, true_and, and_true]
              refine ⟨fun q26 => by omega, fun q26 => hK _ _ _ _ ?_⟩
              refine rz_blk' [(.iload 6, 2, 0, 0), (.aload_n 0, 1, 0, 0), (.iload 7, 2, 0, 0), (.iload 5, 2, 0, 0)] (by decide +kernel) (Nat.le_refl _) (Nat.le_refl _) (fun K R hK hR => ?_)
              simp only [↓rx_aload_n0, ↓rx_iload, ↓rx_nil, ↓ry_li0s, ↓ry_li0z, ↓ry_lr0s, ↓ry_lr0z, w1, rz_set, rz_nol, rz_clr, List.set_cons_zero, List.set_cons_succ, rz_tr, Nat.reduceAdd, Int.reduceAdd, Int.reduceToNat, Int.reduceSub, Int.reduceNeg, Int.cast_ofNat_Int]
              try simp (disch := omega) only [w1, pk_us, pk_un, va_up_self, va_up_ne, nI_add, pk_mul, nI_clamp, vp_inT, nI_ltI, nI_leI, nI_eqI, pk_sub, true_and, and_true]
              refine hK _ _ _ _ ?_
              refine rz_cV (As := [.int (nI b), .int (nI i)]) (b := a) (S := [.int (nI _)]) l_Mod_249 (by decide +kernel) rfl re_at0 rfl (Nat.le_of_ble_eq_true rfl) (Nat.le_refl _) (Nat.le_refl _) (hcl) (fun r G' hr => ?_)
              obtain ⟨rfl, rfl⟩ := hr
              simp only [Option.toList, List.cons_append, List.nil_append]
              refine rz_blk' [(.ifCond .eq 7, 3, 0, 0)] (by decide +kernel) (Nat.le_refl _) (Nat.le_refl _) (fun K R hK hR => ?_)
              simp only [↓rx_ifCond_eq, ↓rx_nil, ↓ry_i1, w1, rz_set, rz_nol, rz_clr, List.set_cons_zero, List.set_cons_succ, rz_tr, Nat.reduceAdd, Int.reduceAdd, Int.reduceToNat, Int.reduceSub, Int.reduceNeg, Int.cast_ofNat_Int]
              try simp (disch := omega) only [w1, pk_us, pk_un, va_up_self, va_up_ne, nI_add, pk_mul, nI_clamp, vp_inT, nI_ltI, nI_leI, nI_eqI, pk_sub, true_and, and_true]
              refine ⟨fun q27 => absurd q27 (by decide), fun q27 => hK _ _ _ _ ?_⟩
              refine rz_blk' [(.iconst 1, 1, 0, 0), (.goto 4, 3, 0, 0)] (by decide +kernel) (Nat.le_refl _) (Nat.le_refl _) (fun K R hK hR => ?_)
              simp only [rw_c1, ↓rx_goto, ↓rx_iconst, ↓rx_nil, w1, rz_set, rz_nol, rz_clr, List.set_cons_zero, List.set_cons_succ, rz_tr, Nat.reduceAdd, Int.reduceAdd, Int.reduceToNat, Int.reduceSub, Int.reduceNeg, Int.cast_ofNat_Int]
              try simp (disch := omega) only [w1, pk_us, pk_un, va_up_self, va_up_ne, nI_add, pk_mul, nI_clamp, vp_inT, nI_ltI, nI_leI, nI_eqI, pk_sub, true_and, and_true]
              refine hK _ _ _ _ ?_
              refine rz_blk' [(.iadd, 1, 0, 0), (.istore 6, 2, 0, 0)] (by decide +kernel) (Nat.le_refl _) (Nat.le_refl _) (fun K R hK hR => ?_)
              simp only [↓rx_iadd, ↓rx_istore, ↓rx_nil, ↓ry_i1, ↓ry_i2, w1, rz_set, rz_nol, rz_clr, List.set_cons_zero, List.set_cons_succ, rz_tr, Nat.reduceAdd, Int.reduceAdd, Int.reduceToNat, Int.reduceSub, Int.reduceNeg, Int.cast_ofNat_Int]
              try simp (disch := omega) only [w1, pk_us, pk_un, va_up_self, va_up_ne, nI_add, pk_mul, nI_clamp, vp_inT, nI_ltI, nI_leI, nI_eqI, pk_sub, true_and, and_true]
              refine hK _ _ _ _ ?_
              refine rz_blk' [(.iinc 7 1, 3, 0, 0)] (by decide +kernel) (Nat.le_refl _) (Nat.le_refl _) (fun K R hK hR => ?_)
              simp only [rw_c1, ↓rx_iinc, ↓rx_nil, ↓ry_li0s, ↓ry_li0z, w1, rz_set, rz_nol, rz_clr, List.set_cons_zero, List.set_cons_succ, rz_tr, Nat.reduceAdd, Int.reduceAdd, Int.reduceToNat, Int.reduceSub, Int.reduceNeg, Int.cast_ofNat_Int]
              try simp (disch := omega) only [w1, pk_us, pk_un, va_up_self, va_up_ne, nI_add, pk_mul, nI_clamp, vp_inT, nI_ltI, nI_leI, nI_eqI, pk_sub, true_and, and_true]
              refine hK _ _ _ _ ?_
              refine rz_blk' [(.goto (-33), 3, 0, 0)] (by decide +kernel) (Nat.le_refl _) (Nat.le_refl _) (fun K R hK hR => ?_)
              simp only [↓rx_goto, ↓rx_nil, w1, rz_set, rz_nol, rz_clr, List.set_cons_zero, List.set_cons_succ, rz_tr, Nat.reduceAdd, Int.reduceAdd, Int.reduceToNat, Int.reduceSub, Int.reduceNeg, Int.cast_ofNat_Int]
              try simp (disch := omega) only [w1, pk_us, pk_un, va_up_self, va_up_ne, nI_add, pk_mul, nI_clamp, vp_inT, nI_ltI, nI_leI, nI_eqI, pk_sub, true_and, and_true]
              refine hK _ _ _ _ ?_
              exact ihb
            | false =>
              rw [hbf] at hcl ihb
              refine rz_blk' [(.iload 7, 2, 0, 0), (.aload_n 0, 1, 0, 0), (.getfield 232, 3, 10, 50), (.if_icmp .ge 30, 3, 0, 0)] (by decide +kernel) (Nat.le_refl _) (Nat.le_refl _) (fun K R hK hR => ?_)
              simp only [↓rx_aload_n0, ↓rx_getfield, ↓rx_if_icmp_ge, ↓rx_iload, ↓rx_nil, ↓ry_i2, ↓ry_li0s, ↓ry_li0z, ↓ry_lr0s, ↓ry_lr0z, ↓ry_obu, ↓ry_r1, ↓re_F50, ↓re_ob, w1, rz_set, rz_nol, rz_clr, List.set_cons_zero, List.set_cons_succ, rz_tr, Nat.reduceAdd, Int.reduceAdd, Int.reduceToNat, Int.reduceSub, Int.reduceNeg, Int.cast_ofNat_Int]
              try simp (disch := omega) only [w1, pk_us, pk_un, va_up_self, va_up_ne, nI_add, pk_mul, nI_clamp, vp_inT, nI_ltI, nI_leI, nI_eqI, pk_sub, true_and, and_true]
              refine ⟨fun q28 => by omega, fun q28 => hK _ _ _ _ ?_⟩
              refine rz_blk' [(.iload 6, 2, 0, 0), (.aload_n 0, 1, 0, 0), (.iload 7, 2, 0, 0), (.iload 5, 2, 0, 0)] (by decide +kernel) (Nat.le_refl _) (Nat.le_refl _) (fun K R hK hR => ?_)
              simp only [↓rx_aload_n0, ↓rx_iload, ↓rx_nil, ↓ry_li0s, ↓ry_li0z, ↓ry_lr0s, ↓ry_lr0z, w1, rz_set, rz_nol, rz_clr, List.set_cons_zero, List.set_cons_succ, rz_tr, Nat.reduceAdd, Int.reduceAdd, Int.reduceToNat, Int.reduceSub, Int.reduceNeg, Int.cast_ofNat_Int]
              try simp (disch := omega) only [w1, pk_us, pk_un, va_up_self, va_up_ne, nI_add, pk_mul, nI_clamp, vp_inT, nI_ltI, nI_leI, nI_eqI, pk_sub, true_and, and_true]
              refine hK _ _ _ _ ?_
              refine rz_cV (As := [.int (nI b), .int (nI i)]) (b := a) (S := [.int (nI _)]) l_Mod_249 (by decide +kernel) rfl re_at0 rfl (Nat.le_of_ble_eq_true rfl) (Nat.le_refl _) (Nat.le_refl _) (hcl) (fun r G' hr => ?_)
              obtain ⟨rfl, rfl⟩ := hr
              simp only [Option.toList, List.cons_append, List.nil_append]
              refine rz_blk' [(.ifCond .eq 7, 3, 0, 0)] (by decide +kernel) (Nat.le_refl _) (Nat.le_refl _) (fun K R hK hR => ?_)
              simp only [↓rx_ifCond_eq, ↓rx_nil, ↓ry_i1, w1, rz_set, rz_nol, rz_clr, List.set_cons_zero, List.set_cons_succ, rz_tr, Nat.reduceAdd, Int.reduceAdd, Int.reduceToNat, Int.reduceSub, Int.reduceNeg, Int.cast_ofNat_Int]
              try simp (disch := omega) only [w1, pk_us, pk_un, va_up_self, va_up_ne, nI_add, pk_mul, nI_clamp, vp_inT, nI_ltI, nI_leI, nI_eqI, pk_sub, true_and, and_true]
              refine ⟨fun q29 => hK _ _ _ _ ?_, fun q29 => absurd rfl q29⟩
              refine rz_blk' [(.iconst 0, 1, 0, 0), (.iadd, 1, 0, 0), (.istore 6, 2, 0, 0)] (by decide +kernel) (Nat.le_refl _) (Nat.le_refl _) (fun K R hK hR => ?_)
              simp only [rw_c0, ↓rx_iadd, ↓rx_iconst, ↓rx_istore, ↓rx_nil, ↓ry_i1, ↓ry_i2, w1, rz_set, rz_nol, rz_clr, List.set_cons_zero, List.set_cons_succ, rz_tr, Nat.reduceAdd, Int.reduceAdd, Int.reduceToNat, Int.reduceSub, Int.reduceNeg, Int.cast_ofNat_Int]
              try simp (disch := omega) only [w1, pk_us, pk_un, va_up_self, va_up_ne, nI_add, pk_mul, nI_clamp, vp_inT, nI_ltI, nI_leI, nI_eqI, pk_sub, true_and, and_true]
              refine hK _ _ _ _ ?_
              refine rz_blk' [(.iinc 7 1, 3, 0, 0)] (by decide +kernel) (Nat.le_refl _) (Nat.le_refl _) (fun K R hK hR => ?_)
              simp only [rw_c1, ↓rx_iinc, ↓rx_nil, ↓ry_li0s, ↓ry_li0z, w1, rz_set, rz_nol, rz_clr, List.set_cons_zero, List.set_cons_succ, rz_tr, Nat.reduceAdd, Int.reduceAdd, Int.reduceToNat, Int.reduceSub, Int.reduceNeg, Int.cast_ofNat_Int]
              try simp (disch := omega) only [w1, pk_us, pk_un, va_up_self, va_up_ne, nI_add, pk_mul, nI_clamp, vp_inT, nI_ltI, nI_leI, nI_eqI, pk_sub, true_and, and_true]
              refine hK _ _ _ _ ?_
              refine rz_blk' [(.goto (-33), 3, 0, 0)] (by decide +kernel) (Nat.le_refl _) (Nat.le_refl _) (fun K R hK hR => ?_)
              simp only [↓rx_goto, ↓rx_nil, w1, rz_set, rz_nol, rz_clr, List.set_cons_zero, List.set_cons_succ, rz_tr, Nat.reduceAdd, Int.reduceAdd, Int.reduceToNat, Int.reduceSub, Int.reduceNeg, Int.cast_ofNat_Int]
              try simp (disch := omega) only [w1, pk_us, pk_un, va_up_self, va_up_ne, nI_add, pk_mul, nI_clamp, vp_inT, nI_ltI, nI_leI, nI_eqI, pk_sub, true_and, and_true]
              refine hK _ _ _ _ ?_
              exact ihb
        refine rz_blk' [(.iload 5, 2, 0, 0), (.aload_n 0, 1, 0, 0), (.getfield 232, 3, 10, 50), (.if_icmp .ge 107, 3, 0, 0)] (by decide +kernel) (Nat.le_refl _) (Nat.le_refl _) (fun K R hK hR => ?_)
        simp only [↓rx_aload_n0, ↓rx_getfield, ↓rx_if_icmp_ge, ↓rx_iload, ↓rx_nil, ↓ry_i2, ↓ry_li0s, ↓ry_li0z, ↓ry_lr0s, ↓ry_lr0z, ↓ry_obu, ↓ry_r1, ↓re_F50, ↓re_ob, w1, rz_set, rz_nol, rz_clr, List.set_cons_zero, List.set_cons_succ, rz_tr, Nat.reduceAdd, Int.reduceAdd, Int.reduceToNat, Int.reduceSub, Int.reduceNeg, Int.cast_ofNat_Int]
        try simp (disch := omega) only [w1, pk_us, pk_un, va_up_self, va_up_ne, nI_add, pk_mul, nI_clamp, vp_inT, nI_ltI, nI_leI, nI_eqI, pk_sub, true_and, and_true]
        refine ⟨fun q30 => by omega, fun q30 => hK _ _ _ _ ?_⟩
        refine rz_blk' [(.iconst 0, 1, 0, 0), (.istore 6, 2, 0, 0)] (by decide +kernel) (Nat.le_refl _) (Nat.le_refl _) (fun K R hK hR => ?_)
        simp only [rw_c0, ↓rx_iconst, ↓rx_istore, ↓rx_nil, ↓ry_i1, w1, rz_set, rz_nol, rz_clr, List.set_cons_zero, List.set_cons_succ, rz_tr, Nat.reduceAdd, Int.reduceAdd, Int.reduceToNat, Int.reduceSub, Int.reduceNeg, Int.cast_ofNat_Int]
        try simp (disch := omega) only [w1, pk_us, pk_un, va_up_self, va_up_ne, nI_add, pk_mul, nI_clamp, vp_inT, nI_ltI, nI_leI, nI_eqI, pk_sub, true_and, and_true]
        refine hK _ _ _ _ ?_
        refine rz_blk' [(.iconst 0, 1, 0, 0), (.istore 7, 2, 0, 0)] (by decide +kernel) (Nat.le_refl _) (Nat.le_refl _) (fun K R hK hR => ?_)
        simp only [rw_c0, ↓rx_iconst, ↓rx_istore, ↓rx_nil, ↓ry_i1, w1, rz_set, rz_nol, rz_clr, List.set_cons_zero, List.set_cons_succ, rz_tr, Nat.reduceAdd, Int.reduceAdd, Int.reduceToNat, Int.reduceSub, Int.reduceNeg, Int.cast_ofNat_Int]
        try simp (disch := omega) only [w1, pk_us, pk_un, va_up_self, va_up_ne, nI_add, pk_mul, nI_clamp, vp_inT, nI_ltI, nI_leI, nI_eqI, pk_sub, true_and, and_true]
        refine hK _ _ _ _ ?_
        exact rl O.length 0 none (Nat.zero_add _)
    have hfin : ∀ (W : List (Nat × List Nat)), rr_k T (dk_let u.toBitVec.toNat) n = some W → (∀ w ∈ W, w.2.length ≤ 33) → ∀ (j i : Nat) (N : List (Nat × List Nat)) (I1 : Nat → Int32) (A1 : Nat → Nat → Int32) (z6 z7 : Option Value), i + j = W.length → N = (W.take i).foldl (rr_g T) [] → I1 0 = nI 0 → kp I A I1 A1 → re_t A1 0 T → wy (I1 50) (A1 52) (A1 53) (A1 54) W → wy (I1 51) (A1 55) (A1 56) (A1 57) N → rz_T w (d + 3) 0 0 m_Mod_read 0 0 278 [some (.ref a), some (.int (nI k)), some (.int (nI n)), some (.int u), some (.int yk), some (.int (nI i)), z6, z7] [] (re_put G a I1 A1) Q := by
      intro W hW hW33 j
      induction j with
      | zero =>
        intro i N I1 A1 z6 z7 hij hNf h0 hkp hre hwy hny
        obtain ⟨w1, w2, w3⟩ := id hwy
        have hi : i = W.length := by omega
        rw [hi, List.take_length] at hNf
        refine rz_blk' [(.iload 5, 2, 0, 0), (.aload_n 0, 1, 0, 0), (.getfield 232, 3, 10, 50), (.if_icmp .ge 55, 3, 0, 0)] (by decide +kernel) (Nat.le_refl _) (Nat.le_refl _) (fun K R hK hR => ?_)
        simp only [↓rx_aload_n0, ↓rx_getfield, ↓rx_if_icmp_ge, ↓rx_iload, ↓rx_nil, ↓ry_i2, ↓ry_li0s, ↓ry_li0z, ↓ry_lr0s, ↓ry_lr0z, ↓ry_obu, ↓ry_r1, ↓re_F50, ↓re_ob, w1, rz_set, rz_nol, rz_clr, List.set_cons_zero, List.set_cons_succ, rz_tr, Nat.reduceAdd, Int.reduceAdd, Int.reduceToNat, Int.reduceSub, Int.reduceNeg, Int.cast_ofNat_Int]
        try simp (disch := omega) only [w1, pk_us, pk_un, va_up_self, va_up_ne, nI_add, pk_mul, nI_clamp, vp_inT, nI_ltI, nI_leI, nI_eqI, pk_sub, true_and, and_true]
        refine ⟨fun q31 => hK _ _ _ _ ?_, fun q31 => by omega⟩
        refine rz_blk' [(.aload_n 0, 1, 0, 0)] (by decide +kernel) (Nat.le_refl _) (Nat.le_refl _) (fun K R hK hR => ?_)
        simp only [↓rx_aload_n0, ↓rx_nil, ↓ry_lr0s, ↓ry_lr0z, w1, rz_set, rz_nol, rz_clr, List.set_cons_zero, List.set_cons_succ, rz_tr, Nat.reduceAdd, Int.reduceAdd, Int.reduceToNat, Int.reduceSub, Int.reduceNeg, Int.cast_ofNat_Int]
        try simp (disch := omega) only [w1, pk_us, pk_un, va_up_self, va_up_ne, nI_add, pk_mul, nI_clamp, vp_inT, nI_ltI, nI_leI, nI_eqI, pk_sub, true_and, and_true]
        refine hK _ _ _ _ ?_
        refine rz_cV (As := []) (b := a) (S := []) l_Mod_243 (by decide +kernel) rfl re_at0 rfl (Nat.le_of_ble_eq_true rfl) (Nat.le_refl _) (Nat.le_refl _) (c_Mod_turnWays hny) (fun r G' hr => ?_)
        obtain ⟨rfl, I2, A2, rfl, f1, f2, f3⟩ := hr
        simp only [Option.toList, List.cons_append, List.nil_append]
        refine rz_blk' [(.aload_n 0, 1, 0, 0), (.iconst 0, 1, 0, 0), (.putfield 246, 3, 10, 12)] (by decide +kernel) (Nat.le_refl _) (Nat.le_refl _) (fun K R hK hR => ?_)
        simp only [List.length_cons, List.length_nil, Nat.reduceLT, rf_10_12, rw_c0, ↓rx_aload_n0, ↓rx_iconst, ↓rx_nil, ↓rx_putfield, ↓ry_lr0s, ↓ry_lr0z, ↓ry_obu, ↓ry_vr, true_and, re_len, re_u12, ↓re_ob, w1, rz_set, rz_nol, rz_clr, List.set_cons_zero, List.set_cons_succ, rz_tr, Nat.reduceAdd, Int.reduceAdd, Int.reduceToNat, Int.reduceSub, Int.reduceNeg, Int.cast_ofNat_Int]
        try simp (disch := omega) only [w1, pk_us, pk_un, va_up_self, va_up_ne, nI_add, pk_mul, nI_clamp, vp_inT, nI_ltI, nI_leI, nI_eqI, pk_sub, true_and, and_true]
        refine hK _ _ _ _ ?_
        refine rz_blk' [(.iconst 0, 1, 0, 0), (.istore 5, 2, 0, 0)] (by decide +kernel) (Nat.le_refl _) (Nat.le_refl _) (fun K R hK hR => ?_)
        simp only [rw_c0, ↓rx_iconst, ↓rx_istore, ↓rx_nil, ↓ry_i1, w1, rz_set, rz_nol, rz_clr, List.set_cons_zero, List.set_cons_succ, rz_tr, Nat.reduceAdd, Int.reduceAdd, Int.reduceToNat, Int.reduceSub, Int.reduceNeg, Int.cast_ofNat_Int]
        try simp (disch := omega) only [w1, pk_us, pk_un, va_up_self, va_up_ne, nI_add, pk_mul, nI_clamp, vp_inT, nI_ltI, nI_leI, nI_eqI, pk_sub, true_and, and_true]
        refine hK _ _ _ _ ?_
        have hk2 := (hkp.i f1 rfl).a f2 rfl
        refine hend W N hW hNf N.length 0 [] _ _ _ _ (Nat.zero_add _) rfl ?_ ?_ (fun l h1 h2 => ?_) (fun l hl => hk2.2.1 l (by omega)) hk2.2.2 pk_us sg_nil (by simp)
        · rw [pk_un (by decide), f1 0 rfl]; exact h0
        · rw [pk_un (by decide)]; exact f3
        · rw [pk_un (by omega)]; exact hk2.1.2 l h1 h2
      | succ j ih =>
        intro i N I1 A1 z6 z7 hij hNf h0 hkp hre hwy hny
        obtain ⟨w1, w2, w3⟩ := id hwy
        have hiW : i < W.length := by omega
        obtain ⟨i1, i2, i3, i4, i5, i6⟩ := w3 i hiW
        obtain ⟨r1, r2, r3, r4, r5, r6⟩ := id hre
        obtain ⟨q1, q2⟩ := r4 W[i].1 i4
        rw [Nat.mul_zero, Nat.zero_add] at q1 q2
        have hstep : (W.take (i + 1)).foldl (rr_g T) [] = rr_g T N W[i] := by rw [foldl_take _ _ _ hiW, hNf]
        have hw33 := hW33 _ (List.getElem_mem hiW)
        have hosl := os_lt (f := T.2.2.1 W[i].1) (fun xs hx => by have := (htw.2.2.2.2.1 _ xs hx).1; omega)
        cases hfw : T.2.2.1 W[i].1 with
        | none =>
          rw [hfw] at hosl q1
          have hst2 : rr_g T N W[i] = N := by simp only [rr_g, hfw]
          refine rz_blk' [(.iload 5, 2, 0, 0), (.aload_n 0, 1, 0, 0), (.getfield 232, 3, 10, 50), (.if_icmp .ge 55, 3, 0, 0)] (by decide +kernel) (Nat.le_refl _) (Nat.le_refl _) (fun K R hK hR => ?_)
          simp only [↓rx_aload_n0, ↓rx_getfield, ↓rx_if_icmp_ge, ↓rx_iload, ↓rx_nil, ↓ry_i2, ↓ry_li0s, ↓ry_li0z, ↓ry_lr0s, ↓ry_lr0z, ↓ry_obu, ↓ry_r1, ↓re_F50, ↓re_ob, w1, i1, q1, rz_set, rz_nol, rz_clr, List.set_cons_zero, List.set_cons_succ, rz_tr, Nat.reduceAdd, Int.reduceAdd, Int.reduceToNat, Int.reduceSub, Int.reduceNeg, Int.cast_ofNat_Int]
          try simp (disch := omega) only [w1, i1, q1, pk_us, pk_un, va_up_self, va_up_ne, nI_add, pk_mul, nI_clamp, vp_inT, nI_ltI, nI_leI, nI_eqI, pk_sub, true_and, and_true]
          refine ⟨fun q32 => by omega, fun q32 => hK _ _ _ _ ?_⟩
          refine rz_blk' [(.aload_n 0, 1, 0, 0), (.getfield 68, 3, 10, 21), (.aload_n 0, 1, 0, 0), (.getfield 132, 3, 10, 52), (.iload 5, 2, 0, 0), (.iaload, 1, 0, 0), (.iaload, 1, 0, 0), (.ifCond .lt 34, 3, 0, 0)] (by decide +kernel) (Nat.le_refl _) (Nat.le_refl _) (fun K R hK hR => ?_)
          simp only [↓rx_aload_n0, ↓rx_getfield, ↓rx_iaload, ↓rx_ifCond_lt, ↓rx_iload, ↓rx_nil, ↓ry_i1, ↓ry_iau, ↓ry_li0s, ↓ry_li0z, ↓ry_lr0s, ↓ry_lr0z, ↓ry_obu, ↓ry_r1, ↓ry_ri, true_and, re_a21, re_a52, ↓re_F21, ↓re_F52, ↓re_i21, ↓re_i52, ↓re_ob, w1, i1, q1, rz_set, rz_nol, rz_clr, List.set_cons_zero, List.set_cons_succ, rz_tr, Nat.reduceAdd, Int.reduceAdd, Int.reduceToNat, Int.reduceSub, Int.reduceNeg, Int.cast_ofNat_Int]
          try simp (disch := omega) only [w1, i1, q1, pk_us, pk_un, va_up_self, va_up_ne, nI_add, pk_mul, nI_clamp, vp_inT, nI_ltI, nI_leI, nI_eqI, pk_sub, true_and, and_true]
          refine ⟨fun q33 => hK _ _ _ _ ?_, fun q33 => absurd (show os none < 0 by decide) q33⟩
          refine rz_blk' [(.iinc 5 1, 3, 0, 0)] (by decide +kernel) (Nat.le_refl _) (Nat.le_refl _) (fun K R hK hR => ?_)
          simp only [rw_c1, ↓rx_iinc, ↓rx_nil, ↓ry_li0s, ↓ry_li0z, w1, i1, q1, rz_set, rz_nol, rz_clr, List.set_cons_zero, List.set_cons_succ, rz_tr, Nat.reduceAdd, Int.reduceAdd, Int.reduceToNat, Int.reduceSub, Int.reduceNeg, Int.cast_ofNat_Int]
          try simp (disch := omega) only [w1, i1, q1, pk_us, pk_un, va_up_self, va_up_ne, nI_add, pk_mul, nI_clamp, vp_inT, nI_ltI, nI_leI, nI_eqI, pk_sub, true_and, and_true]
          refine hK _ _ _ _ ?_
          refine rz_blk' [(.goto (-58), 3, 0, 0)] (by decide +kernel) (Nat.le_refl _) (Nat.le_refl _) (fun K R hK hR => ?_)
          simp only [↓rx_goto, ↓rx_nil, w1, i1, q1, rz_set, rz_nol, rz_clr, List.set_cons_zero, List.set_cons_succ, rz_tr, Nat.reduceAdd, Int.reduceAdd, Int.reduceToNat, Int.reduceSub, Int.reduceNeg, Int.cast_ofNat_Int]
          try simp (disch := omega) only [w1, i1, q1, pk_us, pk_un, va_up_self, va_up_ne, nI_add, pk_mul, nI_clamp, vp_inT, nI_ltI, nI_leI, nI_eqI, pk_sub, true_and, and_true]
          refine hK _ _ _ _ ?_
          exact ih (i + 1) N I1 A1 _ _ (by omega) (by rw [hstep, hst2]) h0 hkp hre hwy hny
        | some v =>
          have hv3 := htw.2.2.2.2.1 _ v hfw
          rw [hfw] at hosl q1 q2
          have hst2 : rr_g T N W[i] = wadd N (0, W[i].2 ++ v) := by simp only [rr_g, hfw]
          simp only [os] at q1
          have hcl := c_Mod_addWay (w := w) (d := d + 2) (G := G) (a := a) (st := 0) (way := i) (v := v) (o := -1 - nI (32 * W[i].1)) hwy hny (by decide) hiW hv3.2 (by omega) (Or.inr ⟨_, i4, rfl, q2⟩)
          refine rz_blk' [(.iload 5, 2, 0, 0), (.aload_n 0, 1, 0, 0), (.getfield 232, 3, 10, 50), (.if_icmp .ge 55, 3, 0, 0)] (by decide +kernel) (Nat.le_refl _) (Nat.le_refl _) (fun K R hK hR => ?_)
          simp only [↓rx_aload_n0, ↓rx_getfield, ↓rx_if_icmp_ge, ↓rx_iload, ↓rx_nil, ↓ry_i2, ↓ry_li0s, ↓ry_li0z, ↓ry_lr0s, ↓ry_lr0z, ↓ry_obu, ↓ry_r1, ↓re_F50, ↓re_ob, w1, i1, q1, rz_set, rz_nol, rz_clr, List.set_cons_zero, List.set_cons_succ, rz_tr, Nat.reduceAdd, Int.reduceAdd, Int.reduceToNat, Int.reduceSub, Int.reduceNeg, Int.cast_ofNat_Int]
          try simp (disch := omega) only [w1, i1, q1, pk_us, pk_un, va_up_self, va_up_ne, nI_add, pk_mul, nI_clamp, vp_inT, nI_ltI, nI_leI, nI_eqI, pk_sub, true_and, and_true]
          refine ⟨fun q34 => by omega, fun q34 => hK _ _ _ _ ?_⟩
          refine rz_blk' [(.aload_n 0, 1, 0, 0), (.getfield 68, 3, 10, 21), (.aload_n 0, 1, 0, 0), (.getfield 132, 3, 10, 52), (.iload 5, 2, 0, 0), (.iaload, 1, 0, 0), (.iaload, 1, 0, 0), (.ifCond .lt 34, 3, 0, 0)] (by decide +kernel) (Nat.le_refl _) (Nat.le_refl _) (fun K R hK hR => ?_)
          simp only [↓rx_aload_n0, ↓rx_getfield, ↓rx_iaload, ↓rx_ifCond_lt, ↓rx_iload, ↓rx_nil, ↓ry_i1, ↓ry_iau, ↓ry_li0s, ↓ry_li0z, ↓ry_lr0s, ↓ry_lr0z, ↓ry_obu, ↓ry_r1, ↓ry_ri, true_and, re_a21, re_a52, ↓re_F21, ↓re_F52, ↓re_i21, ↓re_i52, ↓re_ob, w1, i1, q1, rz_set, rz_nol, rz_clr, List.set_cons_zero, List.set_cons_succ, rz_tr, Nat.reduceAdd, Int.reduceAdd, Int.reduceToNat, Int.reduceSub, Int.reduceNeg, Int.cast_ofNat_Int]
          try simp (disch := omega) only [w1, i1, q1, pk_us, pk_un, va_up_self, va_up_ne, nI_add, pk_mul, nI_clamp, vp_inT, nI_ltI, nI_leI, nI_eqI, pk_sub, true_and, and_true]
          refine ⟨fun q35 => absurd q35 (nI_pos (by omega)), fun q35 => hK _ _ _ _ ?_⟩
          refine rz_blk' [(.aload_n 0, 1, 0, 0), (.iconst 0, 1, 0, 0), (.iload 5, 2, 0, 0), (.iconst (-1), 1, 0, 0), (.bipush 32, 2, 0, 0), (.aload_n 0, 1, 0, 0), (.getfield 132, 3, 10, 52), (.iload 5, 2, 0, 0), (.iaload, 1, 0, 0), (.imul, 1, 0, 0), (.isub, 1, 0, 0), (.aload_n 0, 1, 0, 0), (.getfield 68, 3, 10, 21), (.aload_n 0, 1, 0, 0), (.getfield 132, 3, 10, 52), (.iload 5, 2, 0, 0), (.iaload, 1, 0, 0), (.iaload, 1, 0, 0)] (by decide +kernel) (Nat.le_refl _) (Nat.le_refl _) (fun K R hK hR => ?_)
          simp only [rw_b32, rw_c0, rw_cm1, ↓rx_aload_n0, ↓rx_bipush, ↓rx_getfield, ↓rx_iaload, ↓rx_iconst, ↓rx_iload, ↓rx_imul, ↓rx_isub, ↓rx_nil, ↓ry_i2, ↓ry_iau, ↓ry_li0s, ↓ry_li0z, ↓ry_lr0s, ↓ry_lr0z, ↓ry_obu, ↓ry_r1, ↓ry_ri, true_and, re_a21, re_a52, ↓re_F21, ↓re_F52, ↓re_i21, ↓re_i52, ↓re_ob, w1, i1, q1, rz_set, rz_nol, rz_clr, List.set_cons_zero, List.set_cons_succ, rz_tr, Nat.reduceAdd, Int.reduceAdd, Int.reduceToNat, Int.reduceSub, Int.reduceNeg, Int.cast_ofNat_Int]
          try simp (disch := omega) only [w1, i1, q1, pk_us, pk_un, va_up_self, va_up_ne, nI_add, pk_mul, nI_clamp, vp_inT, nI_ltI, nI_leI, nI_eqI, pk_sub, true_and, and_true]
          refine hK _ _ _ _ ?_
          refine rz_cV (As := [.int (nI 0), .int (nI i), .int (-1 - nI (32 * W[i].1)), .int (nI v.length)]) (b := a) (S := []) l_Mod_239 (by decide +kernel) rfl re_at0 rfl (Nat.le_of_ble_eq_true rfl) (Nat.le_refl _) (Nat.le_refl _) (hcl) (fun r G' hr => ?_)
          obtain ⟨rfl, I2, A2, rfl, f1, f2, f3⟩ := hr
          simp only [Option.toList, List.nil_append]
          refine rz_blk' [(.iinc 5 1, 3, 0, 0)] (by decide +kernel) (Nat.le_refl _) (Nat.le_refl _) (fun K R hK hR => ?_)
          simp only [rw_c1, ↓rx_iinc, ↓rx_nil, ↓ry_li0s, ↓ry_li0z, w1, i1, q1, rz_set, rz_nol, rz_clr, List.set_cons_zero, List.set_cons_succ, rz_tr, Nat.reduceAdd, Int.reduceAdd, Int.reduceToNat, Int.reduceSub, Int.reduceNeg, Int.cast_ofNat_Int]
          try simp (disch := omega) only [w1, i1, q1, pk_us, pk_un, va_up_self, va_up_ne, nI_add, pk_mul, nI_clamp, vp_inT, nI_ltI, nI_leI, nI_eqI, pk_sub, true_and, and_true]
          refine hK _ _ _ _ ?_
          refine rz_blk' [(.goto (-58), 3, 0, 0)] (by decide +kernel) (Nat.le_refl _) (Nat.le_refl _) (fun K R hK hR => ?_)
          simp only [↓rx_goto, ↓rx_nil, w1, i1, q1, rz_set, rz_nol, rz_clr, List.set_cons_zero, List.set_cons_succ, rz_tr, Nat.reduceAdd, Int.reduceAdd, Int.reduceToNat, Int.reduceSub, Int.reduceNeg, Int.cast_ofNat_Int]
          try simp (disch := omega) only [w1, i1, q1, pk_us, pk_un, va_up_self, va_up_ne, nI_add, pk_mul, nI_clamp, vp_inT, nI_ltI, nI_leI, nI_eqI, pk_sub, true_and, and_true]
          refine hK _ _ _ _ ?_
          refine ih (i + 1) _ I2 A2 _ _ (by omega) (by rw [hstep, hst2]) ?_ ((hkp.i f1 rfl).a f2 rfl) (re_t_fa hre f2 rfl) ?_ f3
          · rw [f1 0 rfl]; exact h0
          · rw [f1 50 rfl, f2 52 rfl, f2 53 rfl, f2 54 rfl]; exact hwy
    have hlt : ∀ (j i : Nat) (W : List (Nat × List Nat)) (I1 : Nat → Int32) (A1 : Nat → Nat → Int32) (z6 z7 : Option Value), i + j = n → rr_k T (dk_let u.toBitVec.toNat) i = some W → (∀ w ∈ W, w.2.length ≤ 3 + 3 * i) → I1 0 = nI 0 → kp I A I1 A1 → re_t A1 0 T → wy (I1 50) (A1 52) (A1 53) (A1 54) W → rz_T w (d + 3) 0 0 m_Mod_read 0 0 135 [some (.ref a), some (.int (nI k)), some (.int (nI n)), some (.int u), some (.int yk), some (.int (nI i)), z6, z7] [] (re_put G a I1 A1) Q := by
      intro j
      induction j with
      | zero =>
        intro i W I1 A1 z6 z7 hij hW hW3 h0 hkp hre hwy
        have hi : i = n := by omega
        subst hi
        refine rz_blk' [(.iload 5, 2, 0, 0), (.iload_n 2, 1, 0, 0), (.if_icmp .ge 132, 3, 0, 0)] (by decide +kernel) (Nat.le_refl _) (Nat.le_refl _) (fun K R hK hR => ?_)
        simp only [↓rx_if_icmp_ge, ↓rx_iload, ↓rx_iload_n2, ↓rx_nil, ↓ry_i2, ↓ry_li0s, ↓ry_li0z, rz_set, rz_nol, rz_clr, List.set_cons_zero, List.set_cons_succ, rz_tr, Nat.reduceAdd, Int.reduceAdd, Int.reduceToNat, Int.reduceSub, Int.reduceNeg, Int.cast_ofNat_Int]
        try simp (disch := omega) only [pk_us, pk_un, va_up_self, va_up_ne, nI_add, pk_mul, nI_clamp, vp_inT, nI_ltI, nI_leI, nI_eqI, pk_sub, true_and, and_true]
        refine ⟨fun q36 => hK _ _ _ _ ?_, fun q36 => by omega⟩
        refine rz_blk' [(.aload_n 0, 1, 0, 0), (.iconst 0, 1, 0, 0), (.putfield 229, 3, 10, 51)] (by decide +kernel) (Nat.le_refl _) (Nat.le_refl _) (fun K R hK hR => ?_)
        simp only [List.length_cons, List.length_nil, Nat.reduceLT, rf_10_51, rw_c0, ↓rx_aload_n0, ↓rx_iconst, ↓rx_nil, ↓rx_putfield, ↓ry_lr0s, ↓ry_lr0z, ↓ry_obu, ↓ry_vr, true_and, re_len, re_u51, ↓re_ob, rz_set, rz_nol, rz_clr, List.set_cons_zero, List.set_cons_succ, rz_tr, Nat.reduceAdd, Int.reduceAdd, Int.reduceToNat, Int.reduceSub, Int.reduceNeg, Int.cast_ofNat_Int]
        try simp (disch := omega) only [pk_us, pk_un, va_up_self, va_up_ne, nI_add, pk_mul, nI_clamp, vp_inT, nI_ltI, nI_leI, nI_eqI, pk_sub, true_and, and_true]
        refine hK _ _ _ _ ?_
        refine rz_blk' [(.iconst 0, 1, 0, 0), (.istore 5, 2, 0, 0)] (by decide +kernel) (Nat.le_refl _) (Nat.le_refl _) (fun K R hK hR => ?_)
        simp only [rw_c0, ↓rx_iconst, ↓rx_istore, ↓rx_nil, ↓ry_i1, rz_set, rz_nol, rz_clr, List.set_cons_zero, List.set_cons_succ, rz_tr, Nat.reduceAdd, Int.reduceAdd, Int.reduceToNat, Int.reduceSub, Int.reduceNeg, Int.cast_ofNat_Int]
        try simp (disch := omega) only [pk_us, pk_un, va_up_self, va_up_ne, nI_add, pk_mul, nI_clamp, vp_inT, nI_ltI, nI_leI, nI_eqI, pk_sub, true_and, and_true]
        refine hK _ _ _ _ ?_
        refine hfin W hW (fun w hw => Nat.le_trans (hW3 w hw) (by omega)) W.length 0 [] _ _ _ _ (Nat.zero_add _) rfl ?_ (hkp.i (K := [51]) (fi.rf.u rfl) rfl) hre ?_ ?_
        · rw [pk_un (by decide)]; exact h0
        · rw [pk_un (by decide)]; exact hwy
        · rw [pk_us]; exact ⟨rfl, by simp, fun i h => absurd h (Nat.not_lt_zero _)⟩
      | succ j ih =>
        intro i W I1 A1 z6 z7 hij hW hW3 h0 hkp hre hwy
        have hi10 : i < 10 := by omega
        have hl3 := hlet i (by omega)
        have hsh := re_sh2 u hi10
        generalize hx : dk_let u.toBitVec.toNat i = x at *
        have hafter : ∀ (I2 : Nat → Int32) (A2 : Nat → Nat → Int32) (z6 z7 : Option Value), I2 0 = nI 0 → kp I A I2 A2 → re_t A2 0 T → wy (I2 51) (A2 55) (A2 56) (A2 57) (rr_w T.2.1 x W) → (∀ w ∈ rr_w T.2.1 x W, w.2.length ≤ 3 + 3 * (i + 1)) → rz_T w (d + 3) 0 0 m_Mod_read 0 0 244 [some (.ref a), some (.int (nI k)), some (.int (nI n)), some (.int u), some (.int yk), some (.int (nI i)), z6, z7] [] (re_put G a I2 A2) Q := by
          intro I2 A2 z6 z7 g0 gk gr gn gl
          obtain ⟨n1, n2, n3⟩ := id gn
          have hk1 : rr_k T (dk_let u.toBitVec.toNat) (i + 1) = if 200 < (rr_w T.2.1 x W).length then none else some (rr_w T.2.1 x W) := by
            simp only [rr_k, hW, hx]
          refine rz_blk' [(.aload_n 0, 1, 0, 0), (.getfield 229, 3, 10, 51), (.sipush 200, 3, 0, 0), (.if_icmp .le 9, 3, 0, 0)] (by decide +kernel) (Nat.le_refl _) (Nat.le_refl _) (fun K R hK hR => ?_)
          simp only [rw_s200, ↓rx_aload_n0, ↓rx_getfield, ↓rx_if_icmp_le, ↓rx_nil, ↓rx_sipush, ↓ry_i2, ↓ry_lr0s, ↓ry_lr0z, ↓ry_obu, ↓ry_r1, ↓re_F51, ↓re_ob, n1, rz_set, rz_nol, rz_clr, List.set_cons_zero, List.set_cons_succ, rz_tr, Nat.reduceAdd, Int.reduceAdd, Int.reduceToNat, Int.reduceSub, Int.reduceNeg, Int.cast_ofNat_Int]
          try simp (disch := omega) only [n1, pk_us, pk_un, va_up_self, va_up_ne, nI_add, pk_mul, nI_clamp, vp_inT, nI_ltI, nI_leI, nI_eqI, pk_sub, true_and, and_true]
          refine ⟨fun q37 => hK _ _ _ _ ?_, fun q37 => hK _ _ _ _ ?_⟩
          · -- 251 taken
            refine rz_blk' [(.aload_n 0, 1, 0, 0)] (by decide +kernel) (Nat.le_refl _) (Nat.le_refl _) (fun K R hK hR => ?_)
            simp only [↓rx_aload_n0, ↓rx_nil, ↓ry_lr0s, ↓ry_lr0z, n1, rz_set, rz_nol, rz_clr, List.set_cons_zero, List.set_cons_succ, rz_tr, Nat.reduceAdd, Int.reduceAdd, Int.reduceToNat, Int.reduceSub, Int.reduceNeg, Int.cast_ofNat_Int]
            try simp (disch := omega) only [n1, pk_us, pk_un, va_up_self, va_up_ne, nI_add, pk_mul, nI_clamp, vp_inT, nI_ltI, nI_leI, nI_eqI, pk_sub, true_and, and_true]
            refine hK _ _ _ _ ?_
            refine rz_cV (As := []) (b := a) (S := []) l_Mod_243 (by decide +kernel) rfl re_at0 rfl (Nat.le_of_ble_eq_true rfl) (Nat.le_refl _) (Nat.le_refl _) (c_Mod_turnWays gn) (fun r G' hr => ?_)
            obtain ⟨rfl, I3, A3, rfl, f1, f2, f3⟩ := hr
            simp only [Option.toList, List.cons_append, List.nil_append]
            refine rz_blk' [(.iinc 5 1, 3, 0, 0)] (by decide +kernel) (Nat.le_refl _) (Nat.le_refl _) (fun K R hK hR => ?_)
            simp only [rw_c1, ↓rx_iinc, ↓rx_nil, ↓ry_li0s, ↓ry_li0z, n1, rz_set, rz_nol, rz_clr, List.set_cons_zero, List.set_cons_succ, rz_tr, Nat.reduceAdd, Int.reduceAdd, Int.reduceToNat, Int.reduceSub, Int.reduceNeg, Int.cast_ofNat_Int]
            try simp (disch := omega) only [n1, pk_us, pk_un, va_up_self, va_up_ne, nI_add, pk_mul, nI_clamp, vp_inT, nI_ltI, nI_leI, nI_eqI, pk_sub, true_and, and_true]
            refine hK _ _ _ _ ?_
            refine rz_blk' [(.goto (-132), 3, 0, 0)] (by decide +kernel) (Nat.le_refl _) (Nat.le_refl _) (fun K R hK hR => ?_)
            simp only [↓rx_goto, ↓rx_nil, n1, rz_set, rz_nol, rz_clr, List.set_cons_zero, List.set_cons_succ, rz_tr, Nat.reduceAdd, Int.reduceAdd, Int.reduceToNat, Int.reduceSub, Int.reduceNeg, Int.cast_ofNat_Int]
            try simp (disch := omega) only [n1, pk_us, pk_un, va_up_self, va_up_ne, nI_add, pk_mul, nI_clamp, vp_inT, nI_ltI, nI_leI, nI_eqI, pk_sub, true_and, and_true]
            refine hK _ _ _ _ ?_
            refine ih (i + 1) _ I3 A3 _ _ (by omega) (by rw [hk1, if_neg (by omega)]) gl ?_ ((gk.i f1 rfl).a f2 rfl) (re_t_fa gr f2 rfl) f3
            rw [f1 0 rfl]; exact g0
          · -- 251 not taken
            refine rz_blk' [(.aload_n 0, 1, 0, 0), (.iconst 3, 1, 0, 0)] (by decide +kernel) (Nat.le_refl _) (Nat.le_refl _) (fun K R hK hR => ?_)
            simp only [rw_c3, ↓rx_aload_n0, ↓rx_iconst, ↓rx_nil, ↓ry_lr0s, ↓ry_lr0z, n1, rz_set, rz_nol, rz_clr, List.set_cons_zero, List.set_cons_succ, rz_tr, Nat.reduceAdd, Int.reduceAdd, Int.reduceToNat, Int.reduceSub, Int.reduceNeg, Int.cast_ofNat_Int]
            try simp (disch := omega) only [n1, pk_us, pk_un, va_up_self, va_up_ne, nI_add, pk_mul, nI_clamp, vp_inT, nI_ltI, nI_leI, nI_eqI, pk_sub, true_and, and_true]
            refine hK _ _ _ _ ?_
            refine rz_cV (As := [.int (nI 3)]) (b := a) (S := []) l_Mod_218 (by decide +kernel) rfl re_at0 rfl (Nat.le_of_ble_eq_true rfl) (Nat.le_refl _) (Nat.le_refl _) (c_Mod_fail _) (fun r G' hr => ?_)
            obtain ⟨rfl, rfl⟩ := hr
            simp only [Option.toList, List.cons_append, List.nil_append]
            refine rz_blk' [(.ireturn, 1, 0, 0)] (by decide +kernel) (Nat.le_refl _) (Nat.le_refl _) (fun K R hK hR => ?_)
            simp only [↓rx_ireturn, ↓rx_nil, n1, rz_set, rz_nol, rz_clr, List.set_cons_zero, List.set_cons_succ, rz_tr, Nat.reduceAdd, Int.reduceAdd, Int.reduceToNat, Int.reduceSub, Int.reduceNeg, Int.cast_ofNat_Int]
            try simp (disch := omega) only [n1, pk_us, pk_un, va_up_self, va_up_ne, nI_add, pk_mul, nI_clamp, vp_inT, nI_ltI, nI_leI, nI_eqI, pk_sub, true_and, and_true]
            refine hR _ _ (rz_nb_i (by decide)) ?_
            rw [← hQ]; refine ⟨⟨_, by first | rfl | assumption⟩, ?_⟩
            refine rv_e (kp_rf gk h) 3 (by decide) (by decide) (Or.inr ⟨k, hk, rfl, Or.inr ⟨rfl, n, hn10, hyn, hrok, ?_⟩⟩)
            rw [hT]
            exact rr_kn (i := i) (by omega) (by rw [hk1, if_pos (by omega)])
        have el : ∀ (wi : Nat) (hwi : wi < W.length) (N0 : List (Nat × List Nat)) (I0 : Nat → Int32) (A0 : Nat → Nat → Int32), (∀ (I2 : Nat → Int32) (A2 : Nat → Nat → Int32) (z7 : Option Value), I2 0 = nI 0 → kp I A I2 A2 → re_t A2 0 T → wy (I2 50) (A2 52) (A2 53) (A2 54) W → wy (I2 51) (A2 55) (A2 56) (A2 57) (rr_e T.2.1 x N0 W[wi]) → (∀ w ∈ rr_e T.2.1 x N0 W[wi], w.2.length ≤ 3 + 3 * (i + 1)) → rz_T w (d + 3) 0 0 m_Mod_read 0 0 238 [some (.ref a), some (.int (nI k)), some (.int (nI n)), some (.int u), some (.int yk), some (.int (nI i)), some (.int (nI wi)), z7] [] (re_put G a I2 A2) Q) → ∀ (jj e : Nat) (N : List (Nat × List Nat)) (I1 : Nat → Int32) (A1 : Nat → Nat → Int32), e + jj = T.2.1.length → N = (T.2.1.take e).foldl (rr_1 x W[wi]) N0 → I1 0 = nI 0 → kp I A I1 A1 → re_t A1 0 T → wy (I1 50) (A1 52) (A1 53) (A1 54) W → wy (I1 51) (A1 55) (A1 56) (A1 57) N → (∀ w ∈ N, w.2.length ≤ 3 + 3 * (i + 1)) → rz_T w (d + 3) 0 0 m_Mod_read 0 0 161 [some (.ref a), some (.int (nI k)), some (.int (nI n)), some (.int u), some (.int yk), some (.int (nI i)), some (.int (nI wi)), some (.int (nI e))] [] (re_put G a I1 A1) Q := by
          intro wi hwi N0 I0 A0 hx238 jj
          induction jj with
          | zero =>
            intro e N I1 A1 hej hNf h0 hkp hre hwy hny hnl
            have h24 := htw.2.1
            obtain ⟨r1, r2, r3, r4, r5, r6⟩ := id hre
            have he : e = T.2.1.length := by omega
            rw [he, List.take_length] at hNf
            have hN2 : N = rr_e T.2.1 x N0 W[wi] := hNf
            refine rz_blk' [(.iload 7, 2, 0, 0), (.aload_n 0, 1, 0, 0), (.getfield 50, 3, 10, 15), (.iconst 0, 1, 0, 0), (.iaload, 1, 0, 0), (.if_icmp .ge 69, 3, 0, 0)] (by decide +kernel) (Nat.le_refl _) (Nat.le_refl _) (fun K R hK hR => ?_)
            simp only [rw_c0, ↓rx_aload_n0, ↓rx_getfield, ↓rx_iaload, ↓rx_iconst, ↓rx_if_icmp_ge, ↓rx_iload, ↓rx_nil, ↓ry_i2, ↓ry_iau, ↓ry_li0s, ↓ry_li0z, ↓ry_lr0s, ↓ry_lr0z, ↓ry_obu, ↓ry_r1, ↓ry_ri, true_and, re_a15, ↓re_F15, ↓re_i15, ↓re_ob, r2, rz_set, rz_nol, rz_clr, List.set_cons_zero, List.set_cons_succ, rz_tr, Nat.reduceAdd, Int.reduceAdd, Int.reduceToNat, Int.reduceSub, Int.reduceNeg, Int.cast_ofNat_Int]
            try simp (disch := omega) only [r2, pk_us, pk_un, va_up_self, va_up_ne, nI_add, pk_mul, nI_clamp, vp_inT, nI_ltI, nI_leI, nI_eqI, pk_sub, true_and, and_true]
            refine ⟨fun q38 => hK _ _ _ _ ?_, fun q38 => by omega⟩
            exact hx238 _ _ _ h0 hkp hre hwy (by rw [← hN2]; exact hny) (by rw [← hN2]; exact hnl)
          | succ jj ihe =>
            intro e N I1 A1 hej hNf h0 hkp hre hwy hny hnl
            obtain ⟨w1, w2, w3⟩ := id hwy
            obtain ⟨i1, i2, i3, i4, i5, i6⟩ := w3 wi hwi
            obtain ⟨r1, r2, r3, r4, r5, r6⟩ := id hre
            have heT : e < T.2.1.length := by omega
            obtain ⟨a1, a2, a3, a4, a5⟩ := r3 e heT
            rw [Nat.mul_zero, Nat.zero_add] at a1 a2 a3 a4 a5
            obtain ⟨b1, b2, b3, b4, b5⟩ := tw_e htw heT
            have h24 := htw.2.1
            have hwl := hW3 _ (List.getElem_mem hwi)
            have hstep : (T.2.1.take (e + 1)).foldl (rr_1 x W[wi]) N0 = rr_1 x W[wi] N T.2.1[e] := by rw [foldl_take _ _ _ heT, hNf]
            have hcl := c_Mod_addWay (w := w) (d := d + 2) (G := G) (a := a) (st := T.2.1[e].2.2.1) (way := wi) (v := T.2.1[e].2.2.2) (o := nI (32 * e)) hwy hny b3 hwi b5 (by omega) (Or.inl ⟨_, by omega, rfl, a5⟩)
            refine rz_blk' [(.iload 7, 2, 0, 0), (.aload_n 0, 1, 0, 0), (.getfield 50, 3, 10, 15), (.iconst 0, 1, 0, 0), (.iaload, 1, 0, 0), (.if_icmp .ge 69, 3, 0, 0)] (by decide +kernel) (Nat.le_refl _) (Nat.le_refl _) (fun K R hK hR => ?_)
            simp only [rw_c0, ↓rx_aload_n0, ↓rx_getfield, ↓rx_iaload, ↓rx_iconst, ↓rx_if_icmp_ge, ↓rx_iload, ↓rx_nil, ↓ry_i2, ↓ry_iau, ↓ry_li0s, ↓ry_li0z, ↓ry_lr0s, ↓ry_lr0z, ↓ry_obu, ↓ry_r1, ↓ry_ri, true_and, re_a15, ↓re_F15, ↓re_i15, ↓re_ob, r2, a1, a2, a3, a4, i1, hsh, rz_set, rz_nol, rz_clr, List.set_cons_zero, List.set_cons_succ, rz_tr, Nat.reduceAdd, Int.reduceAdd, Int.reduceToNat, Int.reduceSub, Int.reduceNeg, Int.cast_ofNat_Int]
            try simp (disch := omega) only [r2, a1, a2, a3, a4, i1, hsh, pk_us, pk_un, va_up_self, va_up_ne, nI_add, pk_mul, nI_clamp, vp_inT, nI_ltI, nI_leI, nI_eqI, pk_sub, true_and, and_true]
            refine ⟨fun q39 => by omega, fun q39 => hK _ _ _ _ ?_⟩
            refine rz_blk' [(.aload_n 0, 1, 0, 0), (.getfield 53, 3, 10, 16), (.iload 7, 2, 0, 0), (.iaload, 1, 0, 0), (.aload_n 0, 1, 0, 0), (.getfield 132, 3, 10, 52), (.iload 6, 2, 0, 0), (.iaload, 1, 0, 0), (.if_icmp .ne 46, 3, 0, 0)] (by decide +kernel) (Nat.le_refl _) (Nat.le_refl _) (fun K R hK hR => ?_)
            simp only [↓rx_aload_n0, ↓rx_getfield, ↓rx_iaload, ↓rx_if_icmp_ne, ↓rx_iload, ↓rx_nil, ↓ry_i2, ↓ry_iau, ↓ry_li0s, ↓ry_li0z, ↓ry_lr0s, ↓ry_lr0z, ↓ry_obu, ↓ry_r1, ↓ry_ri, true_and, re_a16, re_a52, ↓re_F16, ↓re_F52, ↓re_i16, ↓re_i52, ↓re_ob, r2, a1, a2, a3, a4, i1, hsh, rz_set, rz_nol, rz_clr, List.set_cons_zero, List.set_cons_succ, rz_tr, Nat.reduceAdd, Int.reduceAdd, Int.reduceToNat, Int.reduceSub, Int.reduceNeg, Int.cast_ofNat_Int]
            try simp (disch := omega) only [r2, a1, a2, a3, a4, i1, hsh, pk_us, pk_un, va_up_self, va_up_ne, nI_add, pk_mul, nI_clamp, vp_inT, nI_ltI, nI_leI, nI_eqI, pk_sub, true_and, and_true]
            
            refine ⟨fun q40 => hK _ _ _ _ ?_, fun q40 => hK _ _ _ _ ?_⟩
            · -- 186 taken
              refine rz_blk' [(.iinc 7 1, 3, 0, 0)] (by decide +kernel) (Nat.le_refl _) (Nat.le_refl _) (fun K R hK hR => ?_)
              simp only [rw_c1, ↓rx_iinc, ↓rx_nil, ↓ry_li0s, ↓ry_li0z, r2, a1, a2, a3, a4, i1, hsh, rz_set, rz_nol, rz_clr, List.set_cons_zero, List.set_cons_succ, rz_tr, Nat.reduceAdd, Int.reduceAdd, Int.reduceToNat, Int.reduceSub, Int.reduceNeg, Int.cast_ofNat_Int]
              try simp (disch := omega) only [r2, a1, a2, a3, a4, i1, hsh, pk_us, pk_un, va_up_self, va_up_ne, nI_add, pk_mul, nI_clamp, vp_inT, nI_ltI, nI_leI, nI_eqI, pk_sub, true_and, and_true]
              refine hK _ _ _ _ ?_
              refine rz_blk' [(.goto (-74), 3, 0, 0)] (by decide +kernel) (Nat.le_refl _) (Nat.le_refl _) (fun K R hK hR => ?_)
              simp only [↓rx_goto, ↓rx_nil, r2, a1, a2, a3, a4, i1, hsh, rz_set, rz_nol, rz_clr, List.set_cons_zero, List.set_cons_succ, rz_tr, Nat.reduceAdd, Int.reduceAdd, Int.reduceToNat, Int.reduceSub, Int.reduceNeg, Int.cast_ofNat_Int]
              try simp (disch := omega) only [r2, a1, a2, a3, a4, i1, hsh, pk_us, pk_un, va_up_self, va_up_ne, nI_add, pk_mul, nI_clamp, vp_inT, nI_ltI, nI_leI, nI_eqI, pk_sub, true_and, and_true]
              refine hK _ _ _ _ ?_
              exact ihe (e + 1) N I1 A1 (by omega) (by rw [hstep, rr_1, if_neg (by omega)]) h0 hkp hre hwy hny hnl
            · -- 186 not taken
              refine rz_blk' [(.aload_n 0, 1, 0, 0), (.getfield 56, 3, 10, 17), (.iload 7, 2, 0, 0), (.iaload, 1, 0, 0), (.iload_n 3, 1, 0, 0), (.iconst 2, 1, 0, 0), (.iload 5, 2, 0, 0), (.imul, 1, 0, 0), (.ishr, 1, 0, 0), (.iconst 3, 1, 0, 0), (.iand, 1, 0, 0), (.if_icmp .ne 28, 3, 0, 0)] (by decide +kernel) (Nat.le_refl _) (Nat.le_refl _) (fun K R hK hR => ?_)
              simp only [rw_c2, rw_c3, ↓rx_aload_n0, ↓rx_getfield, ↓rx_iaload, ↓rx_iand, ↓rx_iconst, ↓rx_if_icmp_ne, ↓rx_iload, ↓rx_iload_n3, ↓rx_imul, ↓rx_ishr, ↓rx_nil, ↓ry_i2, ↓ry_iau, ↓ry_li0s, ↓ry_li0z, ↓ry_lr0s, ↓ry_lr0z, ↓ry_obu, ↓ry_r1, ↓ry_ri, true_and, re_a17, ↓re_F17, ↓re_i17, ↓re_ob, r2, a1, a2, a3, a4, i1, hsh, rz_set, rz_nol, rz_clr, List.set_cons_zero, List.set_cons_succ, rz_tr, Nat.reduceAdd, Int.reduceAdd, Int.reduceToNat, Int.reduceSub, Int.reduceNeg, Int.cast_ofNat_Int]
              try simp (disch := omega) only [r2, a1, a2, a3, a4, i1, hsh, pk_us, pk_un, va_up_self, va_up_ne, nI_add, pk_mul, nI_clamp, vp_inT, nI_ltI, nI_leI, nI_eqI, pk_sub, true_and, and_true]
              
              refine ⟨fun q41 => hK _ _ _ _ ?_, fun q41 => hK _ _ _ _ ?_⟩
              · -- 204 taken
                refine rz_blk' [(.iinc 7 1, 3, 0, 0)] (by decide +kernel) (Nat.le_refl _) (Nat.le_refl _) (fun K R hK hR => ?_)
                simp only [rw_c1, ↓rx_iinc, ↓rx_nil, ↓ry_li0s, ↓ry_li0z, r2, a1, a2, a3, a4, i1, hsh, rz_set, rz_nol, rz_clr, List.set_cons_zero, List.set_cons_succ, rz_tr, Nat.reduceAdd, Int.reduceAdd, Int.reduceToNat, Int.reduceSub, Int.reduceNeg, Int.cast_ofNat_Int]
                try simp (disch := omega) only [r2, a1, a2, a3, a4, i1, hsh, pk_us, pk_un, va_up_self, va_up_ne, nI_add, pk_mul, nI_clamp, vp_inT, nI_ltI, nI_leI, nI_eqI, pk_sub, true_and, and_true]
                refine hK _ _ _ _ ?_
                refine rz_blk' [(.goto (-74), 3, 0, 0)] (by decide +kernel) (Nat.le_refl _) (Nat.le_refl _) (fun K R hK hR => ?_)
                simp only [↓rx_goto, ↓rx_nil, r2, a1, a2, a3, a4, i1, hsh, rz_set, rz_nol, rz_clr, List.set_cons_zero, List.set_cons_succ, rz_tr, Nat.reduceAdd, Int.reduceAdd, Int.reduceToNat, Int.reduceSub, Int.reduceNeg, Int.cast_ofNat_Int]
                try simp (disch := omega) only [r2, a1, a2, a3, a4, i1, hsh, pk_us, pk_un, va_up_self, va_up_ne, nI_add, pk_mul, nI_clamp, vp_inT, nI_ltI, nI_leI, nI_eqI, pk_sub, true_and, and_true]
                refine hK _ _ _ _ ?_
                exact ihe (e + 1) N I1 A1 (by omega) (by rw [hstep, rr_1, if_neg (by omega)]) h0 hkp hre hwy hny hnl
              · -- 204 not taken
                refine rz_blk' [(.aload_n 0, 1, 0, 0), (.aload_n 0, 1, 0, 0), (.getfield 59, 3, 10, 18), (.iload 7, 2, 0, 0), (.iaload, 1, 0, 0), (.iload 6, 2, 0, 0), (.bipush 32, 2, 0, 0), (.iload 7, 2, 0, 0), (.imul, 1, 0, 0), (.aload_n 0, 1, 0, 0), (.getfield 62, 3, 10, 19), (.iload 7, 2, 0, 0), (.iaload, 1, 0, 0)] (by decide +kernel) (Nat.le_refl _) (Nat.le_refl _) (fun K R hK hR => ?_)
                simp only [rw_b32, ↓rx_aload_n0, ↓rx_bipush, ↓rx_getfield, ↓rx_iaload, ↓rx_iload, ↓rx_imul, ↓rx_nil, ↓ry_i2, ↓ry_iau, ↓ry_li0s, ↓ry_li0z, ↓ry_lr0s, ↓ry_lr0z, ↓ry_obu, ↓ry_r1, ↓ry_ri, true_and, re_a18, re_a19, ↓re_F18, ↓re_F19, ↓re_i18, ↓re_i19, ↓re_ob, r2, a1, a2, a3, a4, i1, hsh, rz_set, rz_nol, rz_clr, List.set_cons_zero, List.set_cons_succ, rz_tr, Nat.reduceAdd, Int.reduceAdd, Int.reduceToNat, Int.reduceSub, Int.reduceNeg, Int.cast_ofNat_Int]
                try simp (disch := omega) only [r2, a1, a2, a3, a4, i1, hsh, pk_us, pk_un, va_up_self, va_up_ne, nI_add, pk_mul, nI_clamp, vp_inT, nI_ltI, nI_leI, nI_eqI, pk_sub, true_and, and_true]
                refine hK _ _ _ _ ?_
                refine rz_cV (As := [.int (nI T.2.1[e].2.2.1), .int (nI wi), .int (nI (32 * e)), .int (nI T.2.1[e].2.2.2.length)]) (b := a) (S := []) l_Mod_239 (by decide +kernel) rfl re_at0 rfl (Nat.le_of_ble_eq_true rfl) (Nat.le_refl _) (Nat.le_refl _) (hcl) (fun r G' hr => ?_)
                obtain ⟨rfl, I2, A2, rfl, f1, f2, f3⟩ := hr
                simp only [Option.toList, List.nil_append]
                refine rz_blk' [(.iinc 7 1, 3, 0, 0)] (by decide +kernel) (Nat.le_refl _) (Nat.le_refl _) (fun K R hK hR => ?_)
                simp only [rw_c1, ↓rx_iinc, ↓rx_nil, ↓ry_li0s, ↓ry_li0z, rz_set, rz_nol, rz_clr, List.set_cons_zero, List.set_cons_succ, rz_tr, Nat.reduceAdd, Int.reduceAdd, Int.reduceToNat, Int.reduceSub, Int.reduceNeg, Int.cast_ofNat_Int]
                try simp (disch := omega) only [pk_us, pk_un, va_up_self, va_up_ne, nI_add, pk_mul, nI_clamp, vp_inT, nI_ltI, nI_leI, nI_eqI, pk_sub, true_and, and_true]
                refine hK _ _ _ _ ?_
                refine rz_blk' [(.goto (-74), 3, 0, 0)] (by decide +kernel) (Nat.le_refl _) (Nat.le_refl _) (fun K R hK hR => ?_)
                simp only [↓rx_goto, ↓rx_nil, rz_set, rz_nol, rz_clr, List.set_cons_zero, List.set_cons_succ, rz_tr, Nat.reduceAdd, Int.reduceAdd, Int.reduceToNat, Int.reduceSub, Int.reduceNeg, Int.cast_ofNat_Int]
                try simp (disch := omega) only [pk_us, pk_un, va_up_self, va_up_ne, nI_add, pk_mul, nI_clamp, vp_inT, nI_ltI, nI_leI, nI_eqI, pk_sub, true_and, and_true]
                refine hK _ _ _ _ ?_
                refine ihe (e + 1) _ I2 A2 (by omega) (by rw [hstep, rr_1, if_pos (by omega)]) ?_ ((hkp.i f1 rfl).a f2 rfl) (re_t_fa hre f2 rfl) ?_ f3 (wadd_le hnl ?_)
                · rw [f1 0 rfl]; exact h0
                · rw [f1 50 rfl, f2 52 rfl, f2 53 rfl, f2 54 rfl]; exact hwy
                · simp only [List.length_append]; omega
        have wl : ∀ (jj wi : Nat) (N : List (Nat × List Nat)) (I1 : Nat → Int32) (A1 : Nat → Nat → Int32) (z7 : Option Value), wi + jj = W.length → N = (W.take wi).foldl (rr_e T.2.1 x) [] → I1 0 = nI 0 → kp I A I1 A1 → re_t A1 0 T → wy (I1 50) (A1 52) (A1 53) (A1 54) W → wy (I1 51) (A1 55) (A1 56) (A1 57) N → (∀ w ∈ N, w.2.length ≤ 3 + 3 * (i + 1)) → rz_T w (d + 3) 0 0 m_Mod_read 0 0 149 [some (.ref a), some (.int (nI k)), some (.int (nI n)), some (.int u), some (.int yk), some (.int (nI i)), some (.int (nI wi)), z7] [] (re_put G a I1 A1) Q := by
          intro jj
          induction jj with
          | zero =>
            intro wi N I1 A1 z7 hwj hNf h0 hkp hre hwy hny hnl
            obtain ⟨w1, w2, w3⟩ := id hwy
            have he : wi = W.length := by omega
            rw [he, List.take_length] at hNf
            have hN2 : N = rr_w T.2.1 x W := hNf
            refine rz_blk' [(.iload 6, 2, 0, 0), (.aload_n 0, 1, 0, 0), (.getfield 232, 3, 10, 50), (.if_icmp .ge 89, 3, 0, 0)] (by decide +kernel) (Nat.le_refl _) (Nat.le_refl _) (fun K R hK hR => ?_)
            simp only [↓rx_aload_n0, ↓rx_getfield, ↓rx_if_icmp_ge, ↓rx_iload, ↓rx_nil, ↓ry_i2, ↓ry_li0s, ↓ry_li0z, ↓ry_lr0s, ↓ry_lr0z, ↓ry_obu, ↓ry_r1, ↓re_F50, ↓re_ob, w1, rz_set, rz_nol, rz_clr, List.set_cons_zero, List.set_cons_succ, rz_tr, Nat.reduceAdd, Int.reduceAdd, Int.reduceToNat, Int.reduceSub, Int.reduceNeg, Int.cast_ofNat_Int]
            try simp (disch := omega) only [w1, pk_us, pk_un, va_up_self, va_up_ne, nI_add, pk_mul, nI_clamp, vp_inT, nI_ltI, nI_leI, nI_eqI, pk_sub, true_and, and_true]
            refine ⟨fun q42 => hK _ _ _ _ ?_, fun q42 => by omega⟩
            exact hafter _ _ _ _ h0 hkp hre (by rw [← hN2]; exact hny) (by rw [← hN2]; exact hnl)
          | succ jj ihw =>
            intro wi N I1 A1 z7 hwj hNf h0 hkp hre hwy hny hnl
            obtain ⟨w1, w2, w3⟩ := id hwy
            have hwi : wi < W.length := by omega
            refine rz_blk' [(.iload 6, 2, 0, 0), (.aload_n 0, 1, 0, 0), (.getfield 232, 3, 10, 50), (.if_icmp .ge 89, 3, 0, 0)] (by decide +kernel) (Nat.le_refl _) (Nat.le_refl _) (fun K R hK hR => ?_)
            simp only [↓rx_aload_n0, ↓rx_getfield, ↓rx_if_icmp_ge, ↓rx_iload, ↓rx_nil, ↓ry_i2, ↓ry_li0s, ↓ry_li0z, ↓ry_lr0s, ↓ry_lr0z, ↓ry_obu, ↓ry_r1, ↓re_F50, ↓re_ob, w1, rz_set, rz_nol, rz_clr, List.set_cons_zero, List.set_cons_succ, rz_tr, Nat.reduceAdd, Int.reduceAdd, Int.reduceToNat, Int.reduceSub, Int.reduceNeg, Int.cast_ofNat_Int]
            try simp (disch := omega) only [w1, pk_us, pk_un, va_up_self, va_up_ne, nI_add, pk_mul, nI_clamp, vp_inT, nI_ltI, nI_leI, nI_eqI, pk_sub, true_and, and_true]
            refine ⟨fun q43 => by omega, fun q43 => hK _ _ _ _ ?_⟩
            refine rz_blk' [(.iconst 0, 1, 0, 0), (.istore 7, 2, 0, 0)] (by decide +kernel) (Nat.le_refl _) (Nat.le_refl _) (fun K R hK hR => ?_)
            simp only [rw_c0, ↓rx_iconst, ↓rx_istore, ↓rx_nil, ↓ry_i1, w1, rz_set, rz_nol, rz_clr, List.set_cons_zero, List.set_cons_succ, rz_tr, Nat.reduceAdd, Int.reduceAdd, Int.reduceToNat, Int.reduceSub, Int.reduceNeg, Int.cast_ofNat_Int]
            try simp (disch := omega) only [w1, pk_us, pk_un, va_up_self, va_up_ne, nI_add, pk_mul, nI_clamp, vp_inT, nI_ltI, nI_leI, nI_eqI, pk_sub, true_and, and_true]
            refine hK _ _ _ _ ?_
            refine el wi hwi N I1 A1 (fun I2 A2 z7 k0 kk kr ky kn kl => ?_) T.2.1.length 0 N I1 A1 (Nat.zero_add _) rfl h0 hkp hre hwy hny hnl
            refine rz_blk' [(.iinc 6 1, 3, 0, 0)] (by decide +kernel) (Nat.le_refl _) (Nat.le_refl _) (fun K R hK hR => ?_)
            simp only [rw_c1, ↓rx_iinc, ↓rx_nil, ↓ry_li0s, ↓ry_li0z, rz_set, rz_nol, rz_clr, List.set_cons_zero, List.set_cons_succ, rz_tr, Nat.reduceAdd, Int.reduceAdd, Int.reduceToNat, Int.reduceSub, Int.reduceNeg, Int.cast_ofNat_Int]
            try simp (disch := omega) only [pk_us, pk_un, va_up_self, va_up_ne, nI_add, pk_mul, nI_clamp, vp_inT, nI_ltI, nI_leI, nI_eqI, pk_sub, true_and, and_true]
            refine hK _ _ _ _ ?_
            refine rz_blk' [(.goto (-92), 3, 0, 0)] (by decide +kernel) (Nat.le_refl _) (Nat.le_refl _) (fun K R hK hR => ?_)
            simp only [↓rx_goto, ↓rx_nil, rz_set, rz_nol, rz_clr, List.set_cons_zero, List.set_cons_succ, rz_tr, Nat.reduceAdd, Int.reduceAdd, Int.reduceToNat, Int.reduceSub, Int.reduceNeg, Int.cast_ofNat_Int]
            try simp (disch := omega) only [pk_us, pk_un, va_up_self, va_up_ne, nI_add, pk_mul, nI_clamp, vp_inT, nI_ltI, nI_leI, nI_eqI, pk_sub, true_and, and_true]
            refine hK _ _ _ _ ?_
            exact ihw (wi + 1) _ I2 A2 _ (by omega) (by rw [foldl_take _ _ _ hwi, ← hNf]) k0 kk kr ky kn kl
        refine rz_blk' [(.iload 5, 2, 0, 0), (.iload_n 2, 1, 0, 0), (.if_icmp .ge 132, 3, 0, 0)] (by decide +kernel) (Nat.le_refl _) (Nat.le_refl _) (fun K R hK hR => ?_)
        simp only [↓rx_if_icmp_ge, ↓rx_iload, ↓rx_iload_n2, ↓rx_nil, ↓ry_i2, ↓ry_li0s, ↓ry_li0z, rz_set, rz_nol, rz_clr, List.set_cons_zero, List.set_cons_succ, rz_tr, Nat.reduceAdd, Int.reduceAdd, Int.reduceToNat, Int.reduceSub, Int.reduceNeg, Int.cast_ofNat_Int]
        try simp (disch := omega) only [pk_us, pk_un, va_up_self, va_up_ne, nI_add, pk_mul, nI_clamp, vp_inT, nI_ltI, nI_leI, nI_eqI, pk_sub, true_and, and_true]
        refine ⟨fun q44 => by omega, fun q44 => hK _ _ _ _ ?_⟩
        refine rz_blk' [(.aload_n 0, 1, 0, 0), (.iconst 0, 1, 0, 0), (.putfield 229, 3, 10, 51)] (by decide +kernel) (Nat.le_refl _) (Nat.le_refl _) (fun K R hK hR => ?_)
        simp only [List.length_cons, List.length_nil, Nat.reduceLT, rf_10_51, rw_c0, ↓rx_aload_n0, ↓rx_iconst, ↓rx_nil, ↓rx_putfield, ↓ry_lr0s, ↓ry_lr0z, ↓ry_obu, ↓ry_vr, true_and, re_len, re_u51, ↓re_ob, rz_set, rz_nol, rz_clr, List.set_cons_zero, List.set_cons_succ, rz_tr, Nat.reduceAdd, Int.reduceAdd, Int.reduceToNat, Int.reduceSub, Int.reduceNeg, Int.cast_ofNat_Int]
        try simp (disch := omega) only [pk_us, pk_un, va_up_self, va_up_ne, nI_add, pk_mul, nI_clamp, vp_inT, nI_ltI, nI_leI, nI_eqI, pk_sub, true_and, and_true]
        refine hK _ _ _ _ ?_
        refine rz_blk' [(.iconst 0, 1, 0, 0), (.istore 6, 2, 0, 0)] (by decide +kernel) (Nat.le_refl _) (Nat.le_refl _) (fun K R hK hR => ?_)
        simp only [rw_c0, ↓rx_iconst, ↓rx_istore, ↓rx_nil, ↓ry_i1, rz_set, rz_nol, rz_clr, List.set_cons_zero, List.set_cons_succ, rz_tr, Nat.reduceAdd, Int.reduceAdd, Int.reduceToNat, Int.reduceSub, Int.reduceNeg, Int.cast_ofNat_Int]
        try simp (disch := omega) only [pk_us, pk_un, va_up_self, va_up_ne, nI_add, pk_mul, nI_clamp, vp_inT, nI_ltI, nI_leI, nI_eqI, pk_sub, true_and, and_true]
        refine hK _ _ _ _ ?_
        refine wl W.length 0 [] _ _ _ (Nat.zero_add _) rfl ?_ (hkp.i (K := [51]) (fi.rf.u rfl) rfl) hre ?_ ?_ (fun w hw => absurd hw (by simp))
        · rw [pk_un (by decide)]; exact h0
        · rw [pk_un (by decide)]; exact hwy
        · rw [pk_us]; exact ⟨rfl, by simp, fun i h => absurd h (Nat.not_lt_zero _)⟩
    have cs0 : ∀ (B : Nat → Nat → Int32) (I2 : Nat → Int32) (z6 z7 : Option Value), rz_T w (d + 3) 0 0 m_Mod_read 0 0 132 [some (.ref a), some (.int (nI k)), some (.int (nI n)), some (.int u), some (.int yk), some (.int (nI (3))), z6, z7] [] (re_put G a I2 (va_up B 54 (cp (B 54) (0) (B 24) (0) (3)))) Q → rz_T w (d + 3) 0 0 m_Mod_read 0 0 106 [some (.ref a), some (.int (nI k)), some (.int (nI n)), some (.int u), some (.int yk), some (.int (nI 0)), z6, z7] [] (re_put G a I2 B) Q := by
      intro B I2 z6 z7  hx
      have lp : ∀ (cj cx : Nat), cx + cj = 3 → rz_T w (d + 3) 0 0 m_Mod_read 0 0 106 [some (.ref a), some (.int (nI k)), some (.int (nI n)), some (.int u), some (.int yk), some (.int (nI cx)), z6, z7] [] (re_put G a I2 (va_up B 54 (cp (B 54) (0) (B 24) (0) cx))) Q := by
        intro cj
        induction cj with
        | zero =>
          intro cx hij
          have hi : cx = 3 := by omega
          subst hi
          refine rz_blk' [(.iload 5, 2, 0, 0), (.iconst 3, 1, 0, 0), (.if_icmp .ge 23, 3, 0, 0)] (by decide +kernel) (Nat.le_refl _) (Nat.le_refl _) (fun K R hK hR => ?_)
          simp only [rw_c3, ↓rx_iconst, ↓rx_if_icmp_ge, ↓rx_iload, ↓rx_nil, ↓ry_i2, ↓ry_li0s, ↓ry_li0z, rz_set, rz_nol, rz_clr, List.set_cons_zero, List.set_cons_succ, rz_tr, Nat.reduceAdd, Int.reduceAdd, Int.reduceToNat, Int.reduceSub, Int.reduceNeg, Int.cast_ofNat_Int]
          try simp (disch := omega) only [pk_us, pk_un, va_up_self, va_up_ne, nI_add, pk_mul, nI_clamp, vp_inT, nI_ltI, nI_leI, nI_eqI, pk_sub, true_and, and_true]
          refine ⟨fun q45 => hK _ _ _ _ ?_, fun q45 => by omega⟩
          exact hx
        | succ cj ih =>
          intro cx hij
          refine rz_blk' [(.iload 5, 2, 0, 0), (.iconst 3, 1, 0, 0), (.if_icmp .ge 23, 3, 0, 0)] (by decide +kernel) (Nat.le_refl _) (Nat.le_refl _) (fun K R hK hR => ?_)
          simp only [rw_c3, ↓rx_iconst, ↓rx_if_icmp_ge, ↓rx_iload, ↓rx_nil, ↓ry_i2, ↓ry_li0s, ↓ry_li0z, rz_set, rz_nol, rz_clr, List.set_cons_zero, List.set_cons_succ, rz_tr, Nat.reduceAdd, Int.reduceAdd, Int.reduceToNat, Int.reduceSub, Int.reduceNeg, Int.cast_ofNat_Int]
          try simp (disch := omega) only [pk_us, pk_un, va_up_self, va_up_ne, nI_add, pk_mul, nI_clamp, vp_inT, nI_ltI, nI_leI, nI_eqI, pk_sub, true_and, and_true]
          refine ⟨fun q46 => by omega, fun q46 => hK _ _ _ _ ?_⟩
          refine rz_blk' [(.aload_n 0, 1, 0, 0), (.getfield 138, 3, 10, 54), (.iload 5, 2, 0, 0), (.aload_n 0, 1, 0, 0), (.getfield 77, 3, 10, 24), (.iload 5, 2, 0, 0), (.iaload, 1, 0, 0), (.iastore, 1, 0, 0)] (by decide +kernel) (Nat.le_refl _) (Nat.le_refl _) (fun K R hK hR => ?_)
          simp only [↓rx_aload_n0, ↓rx_getfield, ↓rx_iaload, ↓rx_iastore, ↓rx_iload, ↓rx_nil, ↓ry_iau, ↓ry_li0s, ↓ry_li0z, ↓ry_lr0s, ↓ry_lr0z, ↓ry_obu, ↓ry_r1, ↓ry_ri, ↓ry_rii, true_and, re_a24, re_a54, ↓re_F24, ↓re_F54, ↓re_i24, ↓re_i54, ↓re_ob, rz_set, rz_nol, rz_clr, List.set_cons_zero, List.set_cons_succ, rz_tr, Nat.reduceAdd, Int.reduceAdd, Int.reduceToNat, Int.reduceSub, Int.reduceNeg, Int.cast_ofNat_Int]
          try simp (disch := omega) only [pk_us, pk_un, va_up_self, va_up_ne, nI_add, pk_mul, nI_clamp, vp_inT, nI_ltI, nI_leI, nI_eqI, pk_sub, true_and, and_true]
          refine hK _ _ _ _ ?_
          refine rz_blk' [(.iinc 5 1, 3, 0, 0)] (by decide +kernel) (Nat.le_refl _) (Nat.le_refl _) (fun K R hK hR => ?_)
          simp only [rw_c1, ↓rx_iinc, ↓rx_nil, ↓ry_li0s, ↓ry_li0z, rz_set, rz_nol, rz_clr, List.set_cons_zero, List.set_cons_succ, rz_tr, Nat.reduceAdd, Int.reduceAdd, Int.reduceToNat, Int.reduceSub, Int.reduceNeg, Int.cast_ofNat_Int]
          try simp (disch := omega) only [pk_us, pk_un, va_up_self, va_up_ne, nI_add, pk_mul, nI_clamp, vp_inT, nI_ltI, nI_leI, nI_eqI, pk_sub, true_and, and_true]
          refine hK _ _ _ _ ?_
          refine rz_blk' [(.goto (-23), 3, 0, 0)] (by decide +kernel) (Nat.le_refl _) (Nat.le_refl _) (fun K R hK hR => ?_)
          simp only [↓rx_goto, ↓rx_nil, rz_set, rz_nol, rz_clr, List.set_cons_zero, List.set_cons_succ, rz_tr, Nat.reduceAdd, Int.reduceAdd, Int.reduceToNat, Int.reduceSub, Int.reduceNeg, Int.cast_ofNat_Int]
          try simp (disch := omega) only [pk_us, pk_un, va_up_self, va_up_ne, nI_add, pk_mul, nI_clamp, vp_inT, nI_ltI, nI_leI, nI_eqI, pk_sub, true_and, and_true]
          refine hK _ _ _ _ ?_
          have ih := ih (cx + 1) (by omega)
          rw [← cp_s] at ih
          simp only [Nat.zero_add] at ih
          rw [re_vv]
          exact ih
      have := lp (3) 0 (Nat.zero_add _)
      rw [cp_0, re_ve] at this
      exact this
    have hcl := c_Mod_take (w := w) (d := d) (G := G) (a := a) (I := upd I 0 (nI 0)) (A := A) (k := k) (hh := 0) hk (by decide) hm
    rw [hT] at hcl
    refine rz_blk' [(.aload_n 0, 1, 0, 0), (.iload_n 1, 1, 0, 0), (.iconst 0, 1, 0, 0)] (by decide +kernel) (Nat.le_refl _) (Nat.le_refl _) (fun K R hK hR => ?_)
    simp only [rw_c0, ↓rx_aload_n0, ↓rx_iconst, ↓rx_iload_n1, ↓rx_nil, ↓ry_li0s, ↓ry_li0z, ↓ry_lr0s, ↓ry_lr0z, rz_set, rz_nol, rz_clr, List.set_cons_zero, List.set_cons_succ, rz_tr, Nat.reduceAdd, Int.reduceAdd, Int.reduceToNat, Int.reduceSub, Int.reduceNeg, Int.cast_ofNat_Int]
    try simp (disch := omega) only [pk_us, pk_un, va_up_self, va_up_ne, nI_add, pk_mul, nI_clamp, vp_inT, nI_ltI, nI_leI, nI_eqI, pk_sub, true_and, and_true]
    refine hK _ _ _ _ ?_
    refine rz_cV (As := [.int (nI k), .int (nI 0)]) (b := a) (S := []) l_Mod_235 (by decide +kernel) rfl re_at0 rfl (Nat.le_of_ble_eq_true rfl) (Nat.le_refl _) (Nat.le_refl _) (hcl) (fun r G' hr => ?_)
    obtain ⟨rfl, A1, rfl, hft, hre⟩ := hr
    have hkp0 : kp I A (upd I 0 (nI 0)) A1 := (kp.rf.i (K := [0]) (fi.rf.u rfl) rfl).ft hft
    obtain ⟨r1, r2, r3, r4, r5, r6⟩ := id hre
    have u0 := r1 0 (by decide)
    rw [Nat.mul_zero] at u0 r6
    rw [Nat.zero_add] at u0
    simp only [Option.toList, List.nil_append]
    cases hb : T.1.testBit 0 with
    | false =>
      rw [hb] at u0
      refine rz_blk' [(.aload_n 0, 1, 0, 0), (.iconst 0, 1, 0, 0), (.putfield 232, 3, 10, 50)] (by decide +kernel) (Nat.le_refl _) (Nat.le_refl _) (fun K R hK hR => ?_)
      simp only [List.length_cons, List.length_nil, Nat.reduceLT, rf_10_50, rw_c0, ↓rx_aload_n0, ↓rx_iconst, ↓rx_nil, ↓rx_putfield, ↓ry_lr0s, ↓ry_lr0z, ↓ry_obu, ↓ry_vr, true_and, re_len, re_u50, ↓re_ob, u0, rz_set, rz_nol, rz_clr, List.set_cons_zero, List.set_cons_succ, rz_tr, Nat.reduceAdd, Int.reduceAdd, Int.reduceToNat, Int.reduceSub, Int.reduceNeg, Int.cast_ofNat_Int]
      try simp (disch := omega) only [u0, pk_us, pk_un, va_up_self, va_up_ne, nI_add, pk_mul, nI_clamp, vp_inT, nI_ltI, nI_leI, nI_eqI, pk_sub, true_and, and_true]
      refine hK _ _ _ _ ?_
      refine rz_blk' [(.aload_n 0, 1, 0, 0), (.getfield 46, 3, 10, 14), (.iconst 0, 1, 0, 0), (.baload, 1, 0, 0), (.ifCond .eq 56, 3, 0, 0)] (by decide +kernel) (Nat.le_refl _) (Nat.le_refl _) (fun K R hK hR => ?_)
      simp only [Nat.reduceEqDiff, false_or, or_false, or_true, reduceIte, rw_c0, ↓rx_aload_n0, ↓rx_baload, ↓rx_getfield, ↓rx_iconst, ↓rx_ifCond_eq, ↓rx_nil, ↓ry_i1, ↓ry_iau, ↓ry_lr0s, ↓ry_lr0z, ↓ry_obu, ↓ry_r1, ↓ry_ri, true_and, true_or, re_a14, ↓re_F14, ↓re_i14, ↓re_ob, u0, rz_set, rz_nol, rz_clr, List.set_cons_zero, List.set_cons_succ, rz_tr, Nat.reduceAdd, Int.reduceAdd, Int.reduceToNat, Int.reduceSub, Int.reduceNeg, Int.cast_ofNat_Int]
      try simp (disch := omega) only [u0, pk_us, pk_un, va_up_self, va_up_ne, nI_add, pk_mul, nI_clamp, vp_inT, nI_ltI, nI_leI, nI_eqI, pk_sub, true_and, and_true]
      refine ⟨fun q47 => hK _ _ _ _ ?_, fun q47 => absurd rfl q47⟩
      refine rz_blk' [(.iconst 0, 1, 0, 0), (.istore 5, 2, 0, 0)] (by decide +kernel) (Nat.le_refl _) (Nat.le_refl _) (fun K R hK hR => ?_)
      simp only [rw_c0, ↓rx_iconst, ↓rx_istore, ↓rx_nil, ↓ry_i1, u0, rz_set, rz_nol, rz_clr, List.set_cons_zero, List.set_cons_succ, rz_tr, Nat.reduceAdd, Int.reduceAdd, Int.reduceToNat, Int.reduceSub, Int.reduceNeg, Int.cast_ofNat_Int]
      try simp (disch := omega) only [u0, pk_us, pk_un, va_up_self, va_up_ne, nI_add, pk_mul, nI_clamp, vp_inT, nI_ltI, nI_leI, nI_eqI, pk_sub, true_and, and_true]
      refine hK _ _ _ _ ?_
      refine hlt n 0 [] _ _ _ _ (Nat.zero_add _) (by simp only [rr_k, hb]; rfl) (fun w hw => absurd hw (by simp)) ?_ (hkp0.i (K := [50]) (fi.rf.u rfl) rfl) hre ?_
      · rw [pk_un (by decide), pk_us]
      · rw [pk_us]; exact ⟨rfl, by simp, fun i h => absurd h (Nat.not_lt_zero _)⟩
    | true =>
      rw [hb] at u0
      refine rz_blk' [(.aload_n 0, 1, 0, 0), (.iconst 0, 1, 0, 0), (.putfield 232, 3, 10, 50)] (by decide +kernel) (Nat.le_refl _) (Nat.le_refl _) (fun K R hK hR => ?_)
      simp only [List.length_cons, List.length_nil, Nat.reduceLT, rf_10_50, rw_c0, ↓rx_aload_n0, ↓rx_iconst, ↓rx_nil, ↓rx_putfield, ↓ry_lr0s, ↓ry_lr0z, ↓ry_obu, ↓ry_vr, true_and, re_len, re_u50, ↓re_ob, u0, r5, rz_set, rz_nol, rz_clr, List.set_cons_zero, List.set_cons_succ, rz_tr, Nat.reduceAdd, Int.reduceAdd, Int.reduceToNat, Int.reduceSub, Int.reduceNeg, Int.cast_ofNat_Int]
      try simp (disch := omega) only [u0, r5, pk_us, pk_un, va_up_self, va_up_ne, nI_add, pk_mul, nI_clamp, vp_inT, nI_ltI, nI_leI, nI_eqI, pk_sub, true_and, and_true]
      refine hK _ _ _ _ ?_
      refine rz_blk' [(.aload_n 0, 1, 0, 0), (.getfield 46, 3, 10, 14), (.iconst 0, 1, 0, 0), (.baload, 1, 0, 0), (.ifCond .eq 56, 3, 0, 0)] (by decide +kernel) (Nat.le_refl _) (Nat.le_refl _) (fun K R hK hR => ?_)
      simp only [Nat.reduceEqDiff, false_or, or_false, or_true, reduceIte, rw_c0, ↓rx_aload_n0, ↓rx_baload, ↓rx_getfield, ↓rx_iconst, ↓rx_ifCond_eq, ↓rx_nil, ↓ry_i1, ↓ry_iau, ↓ry_lr0s, ↓ry_lr0z, ↓ry_obu, ↓ry_r1, ↓ry_ri, true_and, true_or, re_a14, ↓re_F14, ↓re_i14, ↓re_ob, u0, r5, rz_set, rz_nol, rz_clr, List.set_cons_zero, List.set_cons_succ, rz_tr, Nat.reduceAdd, Int.reduceAdd, Int.reduceToNat, Int.reduceSub, Int.reduceNeg, Int.cast_ofNat_Int]
      try simp (disch := omega) only [u0, r5, pk_us, pk_un, va_up_self, va_up_ne, nI_add, pk_mul, nI_clamp, vp_inT, nI_ltI, nI_leI, nI_eqI, pk_sub, true_and, and_true]
      refine ⟨fun q48 => absurd q48 (by decide), fun q48 => hK _ _ _ _ ?_⟩
      refine rz_blk' [(.aload_n 0, 1, 0, 0), (.iconst 1, 1, 0, 0), (.putfield 232, 3, 10, 50)] (by decide +kernel) (Nat.le_refl _) (Nat.le_refl _) (fun K R hK hR => ?_)
      simp only [List.length_cons, List.length_nil, Nat.reduceLT, rf_10_50, rw_c1, ↓rx_aload_n0, ↓rx_iconst, ↓rx_nil, ↓rx_putfield, ↓ry_lr0s, ↓ry_lr0z, ↓ry_obu, ↓ry_vr, true_and, re_len, re_u50, ↓re_ob, u0, r5, rz_set, rz_nol, rz_clr, List.set_cons_zero, List.set_cons_succ, rz_tr, Nat.reduceAdd, Int.reduceAdd, Int.reduceToNat, Int.reduceSub, Int.reduceNeg, Int.cast_ofNat_Int]
      try simp (disch := omega) only [u0, r5, pk_us, pk_un, va_up_self, va_up_ne, nI_add, pk_mul, nI_clamp, vp_inT, nI_ltI, nI_leI, nI_eqI, pk_sub, true_and, and_true]
      refine hK _ _ _ _ ?_
      refine rz_blk' [(.aload_n 0, 1, 0, 0), (.getfield 132, 3, 10, 52), (.iconst 0, 1, 0, 0), (.iconst 0, 1, 0, 0), (.iastore, 1, 0, 0)] (by decide +kernel) (Nat.le_refl _) (Nat.le_refl _) (fun K R hK hR => ?_)
      simp only [rw_c0, ↓rx_aload_n0, ↓rx_getfield, ↓rx_iastore, ↓rx_iconst, ↓rx_nil, ↓ry_iau, ↓ry_lr0s, ↓ry_lr0z, ↓ry_obu, ↓ry_r1, ↓ry_rii, true_and, re_a52, ↓re_F52, ↓re_i52, ↓re_ob, u0, r5, rz_set, rz_nol, rz_clr, List.set_cons_zero, List.set_cons_succ, rz_tr, Nat.reduceAdd, Int.reduceAdd, Int.reduceToNat, Int.reduceSub, Int.reduceNeg, Int.cast_ofNat_Int]
      try simp (disch := omega) only [u0, r5, pk_us, pk_un, va_up_self, va_up_ne, nI_add, pk_mul, nI_clamp, vp_inT, nI_ltI, nI_leI, nI_eqI, pk_sub, true_and, and_true]
      refine hK _ _ _ _ ?_
      refine rz_blk' [(.aload_n 0, 1, 0, 0), (.getfield 135, 3, 10, 53), (.iconst 0, 1, 0, 0), (.aload_n 0, 1, 0, 0), (.getfield 74, 3, 10, 23), (.iconst 0, 1, 0, 0), (.iaload, 1, 0, 0), (.iastore, 1, 0, 0)] (by decide +kernel) (Nat.le_refl _) (Nat.le_refl _) (fun K R hK hR => ?_)
      simp only [rw_c0, ↓rx_aload_n0, ↓rx_getfield, ↓rx_iaload, ↓rx_iastore, ↓rx_iconst, ↓rx_nil, ↓ry_iau, ↓ry_lr0s, ↓ry_lr0z, ↓ry_obu, ↓ry_r1, ↓ry_ri, ↓ry_rii, true_and, re_a23, re_a53, ↓re_F23, ↓re_F53, ↓re_i23, ↓re_i53, ↓re_ob, u0, r5, rz_set, rz_nol, rz_clr, List.set_cons_zero, List.set_cons_succ, rz_tr, Nat.reduceAdd, Int.reduceAdd, Int.reduceToNat, Int.reduceSub, Int.reduceNeg, Int.cast_ofNat_Int]
      try simp (disch := omega) only [u0, r5, pk_us, pk_un, va_up_self, va_up_ne, nI_add, pk_mul, nI_clamp, vp_inT, nI_ltI, nI_leI, nI_eqI, pk_sub, true_and, and_true]
      refine hK _ _ _ _ ?_
      refine rz_blk' [(.iconst 0, 1, 0, 0), (.istore 5, 2, 0, 0)] (by decide +kernel) (Nat.le_refl _) (Nat.le_refl _) (fun K R hK hR => ?_)
      simp only [rw_c0, ↓rx_iconst, ↓rx_istore, ↓rx_nil, ↓ry_i1, u0, r5, rz_set, rz_nol, rz_clr, List.set_cons_zero, List.set_cons_succ, rz_tr, Nat.reduceAdd, Int.reduceAdd, Int.reduceToNat, Int.reduceSub, Int.reduceNeg, Int.cast_ofNat_Int]
      try simp (disch := omega) only [u0, r5, pk_us, pk_un, va_up_self, va_up_ne, nI_add, pk_mul, nI_clamp, vp_inT, nI_ltI, nI_leI, nI_eqI, pk_sub, true_and, and_true]
      refine hK _ _ _ _ ?_
      refine cs0 _ _ _ _ ?_
      generalize hB : va_up (va_up A1 52 _) 53 _ = B
      have hB52 : B 52 = upd (A1 52) 0 (nI 0) := by rw [← hB]; simp [va_up]
      have hB53 : B 53 = upd (A1 53) 0 (nI T.2.2.2.length) := by rw [← hB]; simp [va_up]
      have hBf : fa [52, 53, 54] A1 B := by rw [← hB]; exact (fa.rf.u rfl).u rfl
      generalize hC : va_up B 54 _ = C
      have hCf : fa [52, 53, 54] A1 C := by rw [← hC]; exact hBf.u rfl
      have hC54 : C 54 = cp (B 54) 0 (A1 24) 0 3 := by rw [← hC, va_up_self, hBf 24 rfl]
      have hC52 : C 52 = B 52 := by rw [← hC, va_up_ne _ _ (by decide)]
      have hC53 : C 53 = B 53 := by rw [← hC, va_up_ne _ _ (by decide)]
      clear hB hC
      refine rz_blk' [(.iconst 0, 1, 0, 0), (.istore 5, 2, 0, 0)] (by decide +kernel) (Nat.le_refl _) (Nat.le_refl _) (fun K R hK hR => ?_)
      simp only [rw_c0, ↓rx_iconst, ↓rx_istore, ↓rx_nil, ↓ry_i1, rz_set, rz_nol, rz_clr, List.set_cons_zero, List.set_cons_succ, rz_tr, Nat.reduceAdd, Int.reduceAdd, Int.reduceToNat, Int.reduceSub, Int.reduceNeg, Int.cast_ofNat_Int]
      try simp (disch := omega) only [pk_us, pk_un, va_up_self, va_up_ne, nI_add, pk_mul, nI_clamp, vp_inT, nI_ltI, nI_leI, nI_eqI, pk_sub, true_and, and_true]
      refine hK _ _ _ _ ?_
      have hs3 := htw.2.2.2.2.2
      refine hlt n 0 [(0, T.2.2.2)] _ C _ _ (Nat.zero_add _) (by simp only [rr_k, hb]; rfl) (fun w hw => ?_) ?_ ((hkp0.i (K := [50]) ((fi.rf.u rfl).u rfl) rfl).a hCf rfl) (re_t_fa hre hCf rfl) ?_
      · simp at hw; subst hw; exact hs3.1
      · rw [pk_un (by decide), pk_un (by decide), pk_us]
      · rw [pk_us, hC52, hC53, hC54, hB52, hB53]
        refine ⟨rfl, by simp, fun i h => ?_⟩
        have hi : i = 0 := by simp at h; exact h
        subst hi
        exact ⟨pk_us, pk_us, sg_cp r6 hs3.1, by simp, by have := hs3.1; simp; omega, hs3.2⟩
  have ck : ∀ n, n ≤ 10 → yn = nI n → ∀ (j i : Nat), i + j = n → (∀ l, l < i → dk_let u.toBitVec.toNat l < 3) → rz_T w (d + 3) 0 0 m_Mod_read 0 0 29 [some (.ref a), some (.int (nI k)), some (.int (nI n)), some (.int u), some (.int yk), some (.int (nI i)), none, none] [] (re_put G a (upd I 0 (nI 0)) A) Q := by
    intro n hn10 hyn j
    induction j with
    | zero =>
      intro i hij hl
      have hi : i = n := by omega
      subst hi
      refine rz_blk' [(.iload 5, 2, 0, 0), (.iload_n 2, 1, 0, 0), (.if_icmp .ge 27, 3, 0, 0)] (by decide +kernel) (Nat.le_refl _) (Nat.le_refl _) (fun K R hK hR => ?_)
      simp only [↓rx_if_icmp_ge, ↓rx_iload, ↓rx_iload_n2, ↓rx_nil, ↓ry_i2, ↓ry_li0s, ↓ry_li0z, rz_set, rz_nol, rz_clr, List.set_cons_zero, List.set_cons_succ, rz_tr, Nat.reduceAdd, Int.reduceAdd, Int.reduceToNat, Int.reduceSub, Int.reduceNeg, Int.cast_ofNat_Int]
      try simp (disch := omega) only [pk_us, pk_un, va_up_self, va_up_ne, nI_add, pk_mul, nI_clamp, vp_inT, nI_ltI, nI_leI, nI_eqI, pk_sub, true_and, and_true]
      refine ⟨fun q501 => hK _ _ _ _ ?_, fun q501 => by omega⟩
      exact hgo i hn10 hyn hl
    | succ j ih =>
      intro i hij hl
      have hsh := re_sh2 u (k := i) (by omega)
      have h4 := dk_let4 u.toBitVec.toNat i
      refine rz_blk' [(.iload 5, 2, 0, 0), (.iload_n 2, 1, 0, 0), (.if_icmp .ge 27, 3, 0, 0)] (by decide +kernel) (Nat.le_refl _) (Nat.le_refl _) (fun K R hK hR => ?_)
      simp only [↓rx_if_icmp_ge, ↓rx_iload, ↓rx_iload_n2, ↓rx_nil, ↓ry_i2, ↓ry_li0s, ↓ry_li0z, hsh, rz_set, rz_nol, rz_clr, List.set_cons_zero, List.set_cons_succ, rz_tr, Nat.reduceAdd, Int.reduceAdd, Int.reduceToNat, Int.reduceSub, Int.reduceNeg, Int.cast_ofNat_Int]
      try simp (disch := omega) only [hsh, pk_us, pk_un, va_up_self, va_up_ne, nI_add, pk_mul, nI_clamp, vp_inT, nI_ltI, nI_leI, nI_eqI, pk_sub, true_and, and_true]
      refine ⟨fun q502 => by omega, fun q502 => hK _ _ _ _ ?_⟩
      refine rz_blk' [(.iload_n 3, 1, 0, 0), (.iconst 2, 1, 0, 0), (.iload 5, 2, 0, 0), (.imul, 1, 0, 0), (.ishr, 1, 0, 0), (.iconst 3, 1, 0, 0), (.iand, 1, 0, 0), (.iconst 3, 1, 0, 0), (.if_icmp .ne 9, 3, 0, 0)] (by decide +kernel) (Nat.le_refl _) (Nat.le_refl _) (fun K R hK hR => ?_)
      simp only [rw_c2, rw_c3, ↓rx_iand, ↓rx_iconst, ↓rx_if_icmp_ne, ↓rx_iload, ↓rx_iload_n3, ↓rx_imul, ↓rx_ishr, ↓rx_nil, ↓ry_i2, ↓ry_li0s, ↓ry_li0z, hsh, rz_set, rz_nol, rz_clr, List.set_cons_zero, List.set_cons_succ, rz_tr, Nat.reduceAdd, Int.reduceAdd, Int.reduceToNat, Int.reduceSub, Int.reduceNeg, Int.cast_ofNat_Int]
      try simp (disch := omega) only [hsh, pk_us, pk_un, va_up_self, va_up_ne, nI_add, pk_mul, nI_clamp, vp_inT, nI_ltI, nI_leI, nI_eqI, pk_sub, true_and, and_true]
      refine ⟨fun q503 => hK _ _ _ _ ?_, fun q503 => hK _ _ _ _ ?_⟩
      · -- 44 taken
        refine rz_blk' [(.iinc 5 1, 3, 0, 0)] (by decide +kernel) (Nat.le_refl _) (Nat.le_refl _) (fun K R hK hR => ?_)
        simp only [rw_c1, ↓rx_iinc, ↓rx_nil, ↓ry_li0s, ↓ry_li0z, hsh, rz_set, rz_nol, rz_clr, List.set_cons_zero, List.set_cons_succ, rz_tr, Nat.reduceAdd, Int.reduceAdd, Int.reduceToNat, Int.reduceSub, Int.reduceNeg, Int.cast_ofNat_Int]
        try simp (disch := omega) only [hsh, pk_us, pk_un, va_up_self, va_up_ne, nI_add, pk_mul, nI_clamp, vp_inT, nI_ltI, nI_leI, nI_eqI, pk_sub, true_and, and_true]
        refine hK _ _ _ _ ?_
        refine rz_blk' [(.goto (-27), 3, 0, 0)] (by decide +kernel) (Nat.le_refl _) (Nat.le_refl _) (fun K R hK hR => ?_)
        simp only [↓rx_goto, ↓rx_nil, hsh, rz_set, rz_nol, rz_clr, List.set_cons_zero, List.set_cons_succ, rz_tr, Nat.reduceAdd, Int.reduceAdd, Int.reduceToNat, Int.reduceSub, Int.reduceNeg, Int.cast_ofNat_Int]
        try simp (disch := omega) only [hsh, pk_us, pk_un, va_up_self, va_up_ne, nI_add, pk_mul, nI_clamp, vp_inT, nI_ltI, nI_leI, nI_eqI, pk_sub, true_and, and_true]
        refine hK _ _ _ _ ?_
        refine ih (i + 1) (by omega) (fun l hl2 => ?_)
        by_cases c : l = i
        · subst c; omega
        · exact hl l (by omega)
      · -- 44 not taken
        refine rz_blk' [(.aload_n 0, 1, 0, 0), (.iconst 2, 1, 0, 0)] (by decide +kernel) (Nat.le_refl _) (Nat.le_refl _) (fun K R hK hR => ?_)
        simp only [rw_c2, ↓rx_aload_n0, ↓rx_iconst, ↓rx_nil, ↓ry_lr0s, ↓ry_lr0z, hsh, rz_set, rz_nol, rz_clr, List.set_cons_zero, List.set_cons_succ, rz_tr, Nat.reduceAdd, Int.reduceAdd, Int.reduceToNat, Int.reduceSub, Int.reduceNeg, Int.cast_ofNat_Int]
        try simp (disch := omega) only [hsh, pk_us, pk_un, va_up_self, va_up_ne, nI_add, pk_mul, nI_clamp, vp_inT, nI_ltI, nI_leI, nI_eqI, pk_sub, true_and, and_true]
        refine hK _ _ _ _ ?_
        refine rz_cV (As := [.int (nI 2)]) (b := a) (S := []) l_Mod_218 (by decide +kernel) rfl re_at0 rfl (Nat.le_of_ble_eq_true rfl) (Nat.le_refl _) (Nat.le_refl _) (c_Mod_fail _) (fun r G' hr => ?_)
        obtain ⟨rfl, rfl⟩ := hr
        simp only [Option.toList, List.cons_append, List.nil_append]
        refine rz_blk' [(.ireturn, 1, 0, 0)] (by decide +kernel) (Nat.le_refl _) (Nat.le_refl _) (fun K R hK hR => ?_)
        simp only [↓rx_ireturn, ↓rx_nil, hsh, rz_set, rz_nol, rz_clr, List.set_cons_zero, List.set_cons_succ, rz_tr, Nat.reduceAdd, Int.reduceAdd, Int.reduceToNat, Int.reduceSub, Int.reduceNeg, Int.cast_ofNat_Int]
        try simp (disch := omega) only [hsh, pk_us, pk_un, va_up_self, va_up_ne, nI_add, pk_mul, nI_clamp, vp_inT, nI_ltI, nI_leI, nI_eqI, pk_sub, true_and, and_true]
        refine hR _ _ (rz_nb_i (by decide)) (hnrok 2 rfl ?_ _ (rf_0 h))
        rintro ⟨n', hn', e, hall⟩
        have e2 : n = n' := by
          have := hyn.symm.trans e
          rwa [nI_eq (by omega) (by omega)] at this
        have := hall i (by omega)
        omega
  have key := wi_iff (x := yn) (lo := 0) (hi := 10) (by decide) (by decide)
  refine rz_blk' [(.ifCond .ne 5, 3, 0, 0)] (by decide +kernel) (Nat.le_refl _) (Nat.le_refl _) (fun K R hK hR => ?_)
  simp only [↓rx_ifCond_ne, ↓rx_nil, ↓ry_i1, rz_set, rz_nol, rz_clr, List.set_cons_zero, List.set_cons_succ, rz_tr, Nat.reduceAdd, Int.reduceAdd, Int.reduceToNat, Int.reduceSub, Int.reduceNeg, Int.cast_ofNat_Int]
  try simp (disch := omega) only [pk_us, pk_un, va_up_self, va_up_ne, nI_add, pk_mul, nI_clamp, vp_inT, nI_ltI, nI_leI, nI_eqI, pk_sub, true_and, and_true]
  refine ⟨fun q504 => hK _ _ _ _ ?_, fun q504 => absurd q504 (by decide)⟩
  refine rz_blk' [(.iload_n 2, 1, 0, 0), (.iconst 0, 1, 0, 0), (.bipush 10, 2, 0, 0)] (by decide +kernel) (Nat.le_refl _) (Nat.le_refl _) (fun K R hK hR => ?_)
  simp only [rw_b10, rw_c0, ↓rx_bipush, ↓rx_iconst, ↓rx_iload_n2, ↓rx_nil, ↓ry_li0s, ↓ry_li0z, rz_set, rz_nol, rz_clr, List.set_cons_zero, List.set_cons_succ, rz_tr, Nat.reduceAdd, Int.reduceAdd, Int.reduceToNat, Int.reduceSub, Int.reduceNeg, Int.cast_ofNat_Int]
  try simp (disch := omega) only [pk_us, pk_un, va_up_self, va_up_ne, nI_add, pk_mul, nI_clamp, vp_inT, nI_ltI, nI_leI, nI_eqI, pk_sub, true_and, and_true]
  refine hK _ _ _ _ ?_
  refine rz_cS (As := [.int yn, .int (nI 0), .int (nI 10)]) (S := []) l_Mod_210 (by decide +kernel) rfl (Nat.le_of_ble_eq_true rfl) (Nat.le_refl _) (Nat.le_refl _) (c_Mod_within _ _ _) (fun r G' hr => ?_)
  obtain ⟨rfl, hg⟩ := hr
  subst hg
  simp only [Option.toList, List.cons_append, List.nil_append]
  refine rz_blk' [(.ifCond .ne 9, 3, 0, 0)] (by decide +kernel) (Nat.le_refl _) (Nat.le_refl _) (fun K R hK hR => ?_)
  simp only [↓rx_ifCond_ne, ↓rx_nil, ↓ry_i1, rz_set, rz_nol, rz_clr, List.set_cons_zero, List.set_cons_succ, rz_tr, Nat.reduceAdd, Int.reduceAdd, Int.reduceToNat, Int.reduceSub, Int.reduceNeg, Int.cast_ofNat_Int]
  try simp (disch := omega) only [pk_us, pk_un, va_up_self, va_up_ne, nI_add, pk_mul, nI_clamp, vp_inT, nI_ltI, nI_leI, nI_eqI, pk_sub, true_and, and_true]
  rw [rz_b_0]
  refine ⟨fun q505 => hK _ _ _ _ ?_, fun q505 => hK _ _ _ _ ?_⟩
  · -- 17 taken
    refine rz_blk' [(.iconst 0, 1, 0, 0), (.istore 5, 2, 0, 0)] (by decide +kernel) (Nat.le_refl _) (Nat.le_refl _) (fun K R hK hR => ?_)
    simp only [rw_c0, ↓rx_iconst, ↓rx_istore, ↓rx_nil, ↓ry_i1, rz_set, rz_nol, rz_clr, List.set_cons_zero, List.set_cons_succ, rz_tr, Nat.reduceAdd, Int.reduceAdd, Int.reduceToNat, Int.reduceSub, Int.reduceNeg, Int.cast_ofNat_Int]
    try simp (disch := omega) only [pk_us, pk_un, va_up_self, va_up_ne, nI_add, pk_mul, nI_clamp, vp_inT, nI_ltI, nI_leI, nI_eqI, pk_sub, true_and, and_true]
    refine hK _ _ _ _ ?_
    obtain ⟨n, -, hn, rfl⟩ := key.mp (by simpa using q505)
    exact ck n hn rfl n 0 (Nat.zero_add _) (fun l hl => absurd hl (Nat.not_lt_zero _))
  · -- 17 not taken
    refine rz_blk' [(.aload_n 0, 1, 0, 0), (.iconst 2, 1, 0, 0)] (by decide +kernel) (Nat.le_refl _) (Nat.le_refl _) (fun K R hK hR => ?_)
    simp only [rw_c2, ↓rx_aload_n0, ↓rx_iconst, ↓rx_nil, ↓ry_lr0s, ↓ry_lr0z, rz_set, rz_nol, rz_clr, List.set_cons_zero, List.set_cons_succ, rz_tr, Nat.reduceAdd, Int.reduceAdd, Int.reduceToNat, Int.reduceSub, Int.reduceNeg, Int.cast_ofNat_Int]
    try simp (disch := omega) only [pk_us, pk_un, va_up_self, va_up_ne, nI_add, pk_mul, nI_clamp, vp_inT, nI_ltI, nI_leI, nI_eqI, pk_sub, true_and, and_true]
    refine hK _ _ _ _ ?_
    refine rz_cV (As := [.int (nI 2)]) (b := a) (S := []) l_Mod_218 (by decide +kernel) rfl re_at0 rfl (Nat.le_of_ble_eq_true rfl) (Nat.le_refl _) (Nat.le_refl _) (c_Mod_fail _) (fun r G' hr => ?_)
    obtain ⟨rfl, rfl⟩ := hr
    simp only [Option.toList, List.cons_append, List.nil_append]
    refine rz_blk' [(.ireturn, 1, 0, 0)] (by decide +kernel) (Nat.le_refl _) (Nat.le_refl _) (fun K R hK hR => ?_)
    simp only [↓rx_ireturn, ↓rx_nil, rz_set, rz_nol, rz_clr, List.set_cons_zero, List.set_cons_succ, rz_tr, Nat.reduceAdd, Int.reduceAdd, Int.reduceToNat, Int.reduceSub, Int.reduceNeg, Int.cast_ofNat_Int]
    try simp (disch := omega) only [pk_us, pk_un, va_up_self, va_up_ne, nI_add, pk_mul, nI_clamp, vp_inT, nI_ltI, nI_leI, nI_eqI, pk_sub, true_and, and_true]
    refine hR _ _ (rz_nb_i (by decide)) (hnrok 2 rfl ?_ _ (rf_0 h))
    rintro ⟨n', hn', e, -⟩
    rw [key.mpr ⟨n', Nat.zero_le _, hn', e⟩] at q505
    cases q505
set_option maxRecDepth 100000 in
set_option maxHeartbeats 4000000 in
theorem cr_Mod_isSame {w : rz_w} {d : Nat} {G : rz_G} {a : Nat} {I : Nat → Int32} {A : Nat → Nat → Int32} {V : dk_V} (h : rf I A V) (x y : Int32) : rz_C w (d + 6) 0 0 y_Mod_isSame m_Mod_isSame [.ref a, .int x, .int y] (re_put G a I A) (fun (r : Option Value) (G' : rz_G) => (∃ v, r = some (.int v)) ∧ (rv G a V (fun r V' => ∃ k1 k2 rb u1 wb u2, k1 < 6 ∧ k2 < 6 ∧ x = nI k1 ∧ y = nI k2 ∧ (∀ v, ¬ df (tk (V.1 k1)) (tk (V.1 k1)) (xd_st (tk (V.1 k1)) (tk (V.1 k1))) v) ∧ (∀ v, ¬ df (tk (V.1 k2)) (tk (V.1 k2)) (xd_st (tk (V.1 k2)) (tk (V.1 k2))) v) ∧ xl_is (tk (V.1 k1)) (tk (V.1 k2)) (if (tk (V.1 k1)).1.testBit 0 = true then 1 else 0) (if (tk (V.1 k2)).1.testBit 0 = true then 1 else 0) rb u1 ∧ xm_is (tk (V.1 k1)) (tk (V.1 k2)) (xd_st (tk (V.1 k1)) (tk (V.1 k2))) wb u2 ∧ (∀ t ∈ u1, t < 3) ∧ (∀ t ∈ u2, t < 3) ∧ r = some (.int (rz_b (!rb && !wb))) ∧ V' = dk_ur V (xw_s rb u1 wb u2)) (fun c => (c = 1 ∧ (dk_no x ∨ dk_no y)) ∨ (c = 2 ∧ ∃ k1 k2, k1 < 6 ∧ k2 < 6 ∧ x = nI k1 ∧ y = nI k2 ∧ ((∃ v, df (tk (V.1 k1)) (tk (V.1 k1)) (xd_st (tk (V.1 k1)) (tk (V.1 k1))) v) ∨ (∃ v, df (tk (V.1 k2)) (tk (V.1 k2)) (xd_st (tk (V.1 k2)) (tk (V.1 k2))) v))))) r G') := by
  generalize hQ : (fun (r : Option Value) (G' : rz_G) => (∃ v, r = some (.int v)) ∧ (rv G a V (fun r V' => ∃ k1 k2 rb u1 wb u2, k1 < 6 ∧ k2 < 6 ∧ x = nI k1 ∧ y = nI k2 ∧ (∀ v, ¬ df (tk (V.1 k1)) (tk (V.1 k1)) (xd_st (tk (V.1 k1)) (tk (V.1 k1))) v) ∧ (∀ v, ¬ df (tk (V.1 k2)) (tk (V.1 k2)) (xd_st (tk (V.1 k2)) (tk (V.1 k2))) v) ∧ xl_is (tk (V.1 k1)) (tk (V.1 k2)) (if (tk (V.1 k1)).1.testBit 0 = true then 1 else 0) (if (tk (V.1 k2)).1.testBit 0 = true then 1 else 0) rb u1 ∧ xm_is (tk (V.1 k1)) (tk (V.1 k2)) (xd_st (tk (V.1 k1)) (tk (V.1 k2))) wb u2 ∧ (∀ t ∈ u1, t < 3) ∧ (∀ t ∈ u2, t < 3) ∧ r = some (.int (rz_b (!rb && !wb))) ∧ V' = dk_ur V (xw_s rb u1 wb u2)) (fun c => (c = 1 ∧ (dk_no x ∨ dk_no y)) ∨ (c = 2 ∧ ∃ k1 k2, k1 < 6 ∧ k2 < 6 ∧ x = nI k1 ∧ y = nI k2 ∧ ((∃ v, df (tk (V.1 k1)) (tk (V.1 k1)) (xd_st (tk (V.1 k1)) (tk (V.1 k1))) v) ∨ (∃ v, df (tk (V.1 k2)) (tk (V.1 k2)) (xd_st (tk (V.1 k2)) (tk (V.1 k2))) v))))) r G') = Q
  refine rz_enter' [some (.ref a), some (.int x), some (.int y), none, none, none] (by decide +kernel) rfl rfl (Nat.le_of_ble_eq_true rfl) rfl ?_
  refine rz_blk' [(.aload_n 0, 1, 0, 0), (.iload_n 1, 1, 0, 0)] (by decide +kernel) (Nat.le_refl _) (Nat.le_refl _) (fun K R hK hR => ?_)
  simp only [↓rx_aload_n0, ↓rx_iload_n1, ↓rx_nil, ↓ry_li0s, ↓ry_li0z, ↓ry_lr0s, ↓ry_lr0z, rz_set, rz_nol, rz_clr, List.set_cons_zero, List.set_cons_succ, rz_tr, Nat.reduceAdd, Int.reduceAdd, Int.reduceToNat, Int.reduceSub, Int.reduceNeg, Int.cast_ofNat_Int]
  try simp (disch := omega) only [pk_us, pk_un, va_up_self, va_up_ne, nI_add, pk_mul, nI_clamp, vp_inT, nI_ltI, nI_leI, nI_eqI, pk_sub, true_and, and_true]
  refine hK _ _ _ _ ?_
  refine rz_cV (As := [.int x]) (b := a) (S := []) l_Mod_214 (by decide +kernel) rfl re_at0 rfl (Nat.le_of_ble_eq_true rfl) (Nat.le_refl _) (Nat.le_refl _) (c_Mod_isMachine _) (fun r G' hr => ?_)
  rcases hr with ⟨k1, hk1, rfl, rfl, hg⟩ | ⟨hno, rfl, hg⟩
  rotate_left
  · subst hg
    simp only [Option.toList, List.cons_append, List.nil_append]
    refine rz_blk' [(.ifCond .eq 11, 3, 0, 0)] (by decide +kernel) (Nat.le_refl _) (Nat.le_refl _) (fun K R hK hR => ?_)
    simp only [↓rx_ifCond_eq, ↓rx_nil, ↓ry_i1, rz_set, rz_nol, rz_clr, List.set_cons_zero, List.set_cons_succ, rz_tr, Nat.reduceAdd, Int.reduceAdd, Int.reduceToNat, Int.reduceSub, Int.reduceNeg, Int.cast_ofNat_Int]
    try simp (disch := omega) only [pk_us, pk_un, va_up_self, va_up_ne, nI_add, pk_mul, nI_clamp, vp_inT, nI_ltI, nI_leI, nI_eqI, pk_sub, true_and, and_true]
    refine ⟨fun q1 => hK _ _ _ _ ?_, fun q1 => by first | exact absurd rfl q1 | exact absurd trivial q1⟩
    refine rz_blk' [(.iconst 0, 1, 0, 0), (.ireturn, 1, 0, 0)] (by decide +kernel) (Nat.le_refl _) (Nat.le_refl _) (fun K R hK hR => ?_)
    simp only [rw_c0, ↓rx_iconst, ↓rx_ireturn, ↓rx_nil, rz_set, rz_nol, rz_clr, List.set_cons_zero, List.set_cons_succ, rz_tr, Nat.reduceAdd, Int.reduceAdd, Int.reduceToNat, Int.reduceSub, Int.reduceNeg, Int.cast_ofNat_Int]
    try simp (disch := omega) only [pk_us, pk_un, va_up_self, va_up_ne, nI_add, pk_mul, nI_clamp, vp_inT, nI_ltI, nI_leI, nI_eqI, pk_sub, true_and, and_true]
    exact hR _ _ rz_nb_0 (by rw [← hQ]; refine ⟨⟨_, by first | rfl | assumption⟩, ?_⟩; exact rv_e h 1 (by decide) (by decide) (Or.inl ⟨rfl, Or.inl hno⟩))
  subst hg
  simp only [Option.toList, List.cons_append, List.nil_append]
  refine rz_blk' [(.ifCond .eq 11, 3, 0, 0)] (by decide +kernel) (Nat.le_refl _) (Nat.le_refl _) (fun K R hK hR => ?_)
  simp only [↓rx_ifCond_eq, ↓rx_nil, ↓ry_i1, rz_set, rz_nol, rz_clr, List.set_cons_zero, List.set_cons_succ, rz_tr, Nat.reduceAdd, Int.reduceAdd, Int.reduceToNat, Int.reduceSub, Int.reduceNeg, Int.cast_ofNat_Int]
  try simp (disch := omega) only [pk_us, pk_un, va_up_self, va_up_ne, nI_add, pk_mul, nI_clamp, vp_inT, nI_ltI, nI_leI, nI_eqI, pk_sub, true_and, and_true]
  refine ⟨fun q2 => absurd q2 (by decide), fun q2 => hK _ _ _ _ ?_⟩
  refine rz_blk' [(.aload_n 0, 1, 0, 0), (.iload_n 2, 1, 0, 0)] (by decide +kernel) (Nat.le_refl _) (Nat.le_refl _) (fun K R hK hR => ?_)
  simp only [↓rx_aload_n0, ↓rx_iload_n2, ↓rx_nil, ↓ry_li0s, ↓ry_li0z, ↓ry_lr0s, ↓ry_lr0z, rz_set, rz_nol, rz_clr, List.set_cons_zero, List.set_cons_succ, rz_tr, Nat.reduceAdd, Int.reduceAdd, Int.reduceToNat, Int.reduceSub, Int.reduceNeg, Int.cast_ofNat_Int]
  try simp (disch := omega) only [pk_us, pk_un, va_up_self, va_up_ne, nI_add, pk_mul, nI_clamp, vp_inT, nI_ltI, nI_leI, nI_eqI, pk_sub, true_and, and_true]
  refine hK _ _ _ _ ?_
  refine rz_cV (As := [.int y]) (b := a) (S := []) l_Mod_214 (by decide +kernel) rfl re_at0 rfl (Nat.le_of_ble_eq_true rfl) (Nat.le_refl _) (Nat.le_refl _) (c_Mod_isMachine _) (fun r G' hr => ?_)
  rcases hr with ⟨k2, hk2, rfl, rfl, hg⟩ | ⟨hno, rfl, hg⟩
  rotate_left
  · subst hg
    simp only [Option.toList, List.cons_append, List.nil_append]
    refine rz_blk' [(.ifCond .ne 5, 3, 0, 0)] (by decide +kernel) (Nat.le_refl _) (Nat.le_refl _) (fun K R hK hR => ?_)
    simp only [↓rx_ifCond_ne, ↓rx_nil, ↓ry_i1, rz_set, rz_nol, rz_clr, List.set_cons_zero, List.set_cons_succ, rz_tr, Nat.reduceAdd, Int.reduceAdd, Int.reduceToNat, Int.reduceSub, Int.reduceNeg, Int.cast_ofNat_Int]
    try simp (disch := omega) only [pk_us, pk_un, va_up_self, va_up_ne, nI_add, pk_mul, nI_clamp, vp_inT, nI_ltI, nI_leI, nI_eqI, pk_sub, true_and, and_true]
    refine ⟨fun q3 => by first | exact absurd rfl q3 | exact absurd trivial q3, fun q3 => hK _ _ _ _ ?_⟩
    refine rz_blk' [(.iconst 0, 1, 0, 0), (.ireturn, 1, 0, 0)] (by decide +kernel) (Nat.le_refl _) (Nat.le_refl _) (fun K R hK hR => ?_)
    simp only [rw_c0, ↓rx_iconst, ↓rx_ireturn, ↓rx_nil, rz_set, rz_nol, rz_clr, List.set_cons_zero, List.set_cons_succ, rz_tr, Nat.reduceAdd, Int.reduceAdd, Int.reduceToNat, Int.reduceSub, Int.reduceNeg, Int.cast_ofNat_Int]
    try simp (disch := omega) only [pk_us, pk_un, va_up_self, va_up_ne, nI_add, pk_mul, nI_clamp, vp_inT, nI_ltI, nI_leI, nI_eqI, pk_sub, true_and, and_true]
    exact hR _ _ rz_nb_0 (by rw [← hQ]; refine ⟨⟨_, by first | rfl | assumption⟩, ?_⟩; exact rv_e (rf_0 h) 1 (by decide) (by decide) (Or.inl ⟨rfl, Or.inr hno⟩))
  subst hg
  simp only [Option.toList, List.cons_append, List.nil_append]
  rw [re_uu]
  generalize hI0 : upd I 0 (nI 0) = I0
  have h0 : rf I0 A V := by rw [← hI0]; exact rf_0 h
  have hI00 : I0 0 = nI 0 := by rw [← hI0, pk_us]
  have hm1 := h0.1 k1 hk1
  have hm2 := h0.1 k2 hk2
  obtain ⟨n46, hn46, hI46⟩ := h0.2.2.1
  have htw1 := tk_tw (re_m_wf hm1)
  have htw2 := tk_tw (re_m_wf hm2)
  clear h
  have hfail : ∀ (I1 : Nat → Int32) (A1 : Nat → Nat → Int32), fi [26, 27, 30, 38, 41, 42, 46, 47] I0 I1 → fa [14, 15, 16, 17, 18, 19, 20, 21, 22, 23, 24, 25, 26, 27, 28, 29, 30, 31, 32, 33, 34, 35, 36, 37, 38, 39, 40, 41, 42, 43, 44, 45, 46, 47, 48, 49] A A1 → I1 46 = I0 46 → ((∃ v, df (tk (V.1 k1)) (tk (V.1 k1)) (xd_st (tk (V.1 k1)) (tk (V.1 k1))) v) ∨ (∃ v, df (tk (V.1 k2)) (tk (V.1 k2)) (xd_st (tk (V.1 k2)) (tk (V.1 k2))) v)) → Q (some (.int (nI 0))) (re_put G a (upd I1 0 (nI 2)) A1) := by
    intro I1 A1 i1 a1 h46 hne
    rw [← hQ]; refine ⟨⟨_, by first | rfl | assumption⟩, ?_⟩
    exact rv_e (rf_f h0 i1 a1 h46 rfl rfl) 2 (by decide) (by decide) (Or.inr ⟨rfl, k1, k2, hk1, hk2, rfl, rfl, hne⟩)
  have hfo1 := c_Mod_functionOf (w := w) (d := d) (G := G) (a := a) (I := I0) (A := A) hk1 hm1
  have hgo : ∀ (I1 : Nat → Int32) (A1 : Nat → Nat → Int32), fi [26, 27, 30, 38, 41, 42, 46, 47] I0 I1 → fa [14, 15, 16, 17, 18, 19, 20, 21, 22, 23, 24, 25, 26, 27, 28, 29, 30, 31, 32, 33, 34, 35, 36, 37, 38, 39, 40, 41, 42, 43, 44, 45, 46, 47, 48, 49] A A1 → I1 46 = I0 46 → (∀ v, ¬ df (tk (V.1 k1)) (tk (V.1 k1)) (xd_st (tk (V.1 k1)) (tk (V.1 k1))) v) → (∀ v, ¬ df (tk (V.1 k2)) (tk (V.1 k2)) (xd_st (tk (V.1 k2)) (tk (V.1 k2))) v) → rz_T w (d + 6) 0 0 m_Mod_isSame 0 0 48 [some (.ref a), some (.int (nI k1)), some (.int (nI k2)), none, none, none] [] (re_put G a I1 A1) Q := by
    intro I1 A1 i1 a1 j46 hF1 hF2
    clear hfail hfo1
    generalize hT1 : (tk (V.1 k1)) = T1 at *
    generalize hT2 : (tk (V.1 k2)) = T2 at *
    have htw1' := tw_m htw1 (show 3 ≤ 32 by decide)
    have htw2' := tw_m htw2 (show 3 ≤ 32 by decide)
    have htl : ∀ (rb wb : Bool) (u1 u2 : List Nat) (I2 : Nat → Int32) (A2 : Nat → Nat → Int32) (z5 : Option Value), fi [26, 27, 30, 38, 41, 42, 46, 47] I0 I2 → fa [14, 15, 16, 17, 18, 19, 20, 21, 22, 23, 24, 25, 26, 27, 28, 29, 30, 31, 32, 33, 34, 35, 36, 37, 38, 39, 40, 41, 42, 43, 44, 45, 46, 47, 48, 49] A A2 → xl_is T1 T2 (if T1.1.testBit 0 = true then 1 else 0) (if T2.1.testBit 0 = true then 1 else 0) rb u1 → xm_is T1 T2 (xd_st T1 T2) wb u2 → (∀ t ∈ u1, t < 3) → (∀ t ∈ u2, t < 3) → (xw_s rb u1 wb u2).length ≤ 4096 → I2 46 = nI (xw_s rb u1 wb u2).length → sg (A2 48) 0 (xw_s rb u1 wb u2) → rz_T w (d + 6) 0 0 m_Mod_isSame 0 0 239 [some (.ref a), some (.int (nI k1)), some (.int (nI k2)), some (.int (rz_b rb)), some (.int (rz_b wb)), z5] [] (re_put G a I2 A2) Q := by
      intro rb wb u1 u2 I2 A2 z5 i2 a2 x1 x2 x3 x4 x5 x6 x7
      have htw := c_Mod_tellWord (w := w) (d := d + 5) (G := G) (a := a) x6 x7 x5
      have hfin : ∀ (I3 : Nat → Int32) (A3 : Nat → Nat → Int32), fi [12] I2 I3 → fa [13] A2 A3 → re_r I3 A3 (xw_s rb u1 wb u2) → Q (some (.int (rz_b (!rb && !wb)))) (re_put G a I3 A3) := by
        intro I3 A3 i3 a3 hr
        rw [← hQ]; refine ⟨⟨_, by first | rfl | assumption⟩, ?_⟩
        refine rv_f ?_ (rf_r (KI := 12 :: [26, 27, 30, 38, 41, 42, 46, 47]) (K := 13 :: [14, 15, 16, 17, 18, 19, 20, 21, 22, 23, 24, 25, 26, 27, 28, 29, 30, 31, 32, 33, 34, 35, 36, 37, 38, 39, 40, 41, 42, 43, 44, 45, 46, 47, 48, 49]) h0 (i2.t' i3 rfl rfl) (a2.t' a3 rfl rfl) (by omega : (xw_s rb u1 wb u2).length ≤ 4100) (by rw [i3 46 rfl]; exact x6) hr rfl rfl) ⟨k1, k2, rb, u1, wb, u2, hk1, hk2, rfl, rfl, by rw [hT1]; exact hF1, by rw [hT2]; exact hF2, by rw [hT1, hT2]; exact x1, by rw [hT1, hT2]; exact x2, x3, x4, rfl, rfl⟩
        rw [i3 0 rfl, i2 0 rfl]; exact hI00
      have hret : ∀ z : Int32, z = rz_b (!rb && !wb) → ∀ (I3 : Nat → Int32) (A3 : Nat → Nat → Int32), fi [12] I2 I3 → fa [13] A2 A3 → re_r I3 A3 (xw_s rb u1 wb u2) → Q (some (.int z)) (re_put G a I3 A3) := by
        rintro z rfl; exact hfin
      refine rz_blk' [(.aload_n 0, 1, 0, 0)] (by decide +kernel) (Nat.le_refl _) (Nat.le_refl _) (fun K R hK hR => ?_)
      simp only [↓rx_aload_n0, ↓rx_nil, ↓ry_lr0s, ↓ry_lr0z, rz_set, rz_nol, rz_clr, List.set_cons_zero, List.set_cons_succ, rz_tr, Nat.reduceAdd, Int.reduceAdd, Int.reduceToNat, Int.reduceSub, Int.reduceNeg, Int.cast_ofNat_Int]
      try simp (disch := omega) only [rb_0, pk_us, pk_un, va_up_self, va_up_ne, nI_add, pk_mul, nI_clamp, vp_inT, nI_ltI, nI_leI, nI_eqI, pk_sub, true_and, and_true]
      refine hK _ _ _ _ ?_
      refine rz_cV (As := []) (b := a) (S := []) l_Mod_321 (by decide +kernel) rfl re_at0 rfl (Nat.le_of_ble_eq_true rfl) (Nat.le_refl _) (Nat.le_refl _) (htw) (fun r G' hr => ?_)
      obtain ⟨rfl, I3, A3, rfl, i3, a3, hrr⟩ := hr
      simp only [Option.toList, List.nil_append]
      refine rz_blk' [(.iload_n 3, 1, 0, 0), (.ifCond .ne 12, 3, 0, 0)] (by decide +kernel) (Nat.le_refl _) (Nat.le_refl _) (fun K R hK hR => ?_)
      simp only [↓rx_ifCond_ne, ↓rx_iload_n3, ↓rx_nil, ↓ry_i1, ↓ry_li0s, ↓ry_li0z, rz_set, rz_nol, rz_clr, List.set_cons_zero, List.set_cons_succ, rz_tr, Nat.reduceAdd, Int.reduceAdd, Int.reduceToNat, Int.reduceSub, Int.reduceNeg, Int.cast_ofNat_Int]
      try simp (disch := omega) only [rb_0, pk_us, pk_un, va_up_self, va_up_ne, nI_add, pk_mul, nI_clamp, vp_inT, nI_ltI, nI_leI, nI_eqI, pk_sub, true_and, and_true]
      refine ⟨fun q4 => hK _ _ _ _ ?_, fun q4 => hK _ _ _ _ ?_⟩
      · -- 244 taken
        refine rz_blk' [(.iconst 0, 1, 0, 0), (.ireturn, 1, 0, 0)] (by decide +kernel) (Nat.le_refl _) (Nat.le_refl _) (fun K R hK hR => ?_)
        simp only [rw_c0, ↓rx_iconst, ↓rx_ireturn, ↓rx_nil, rz_set, rz_nol, rz_clr, List.set_cons_zero, List.set_cons_succ, rz_tr, Nat.reduceAdd, Int.reduceAdd, Int.reduceToNat, Int.reduceSub, Int.reduceNeg, Int.cast_ofNat_Int]
        try simp (disch := omega) only [rb_0, pk_us, pk_un, va_up_self, va_up_ne, nI_add, pk_mul, nI_clamp, vp_inT, nI_ltI, nI_leI, nI_eqI, pk_sub, true_and, and_true]
        first
          | exact hR _ _ rz_nb_1 (hret _ (by rw [show rb = false by simpa using @2, show wb = false by simpa using q4]; rfl) I3 A3 i3 a3 hrr)
          | exact hR _ _ rz_nb_0 (hret _ (by rw [show rb = true by simpa using q4]; rfl) I3 A3 i3 a3 hrr)
          | exact hR _ _ rz_nb_0 (hret _ (by rw [show wb = true by simpa using q4]; simp; rfl) I3 A3 i3 a3 hrr)
      · -- 244 not taken
        refine rz_blk' [(.iload 4, 2, 0, 0), (.ifCond .ne 7, 3, 0, 0)] (by decide +kernel) (Nat.le_refl _) (Nat.le_refl _) (fun K R hK hR => ?_)
        simp only [↓rx_ifCond_ne, ↓rx_iload, ↓rx_nil, ↓ry_i1, ↓ry_li0s, ↓ry_li0z, rz_set, rz_nol, rz_clr, List.set_cons_zero, List.set_cons_succ, rz_tr, Nat.reduceAdd, Int.reduceAdd, Int.reduceToNat, Int.reduceSub, Int.reduceNeg, Int.cast_ofNat_Int]
        try simp (disch := omega) only [rb_0, pk_us, pk_un, va_up_self, va_up_ne, nI_add, pk_mul, nI_clamp, vp_inT, nI_ltI, nI_leI, nI_eqI, pk_sub, true_and, and_true]
        refine ⟨fun q5 => hK _ _ _ _ ?_, fun q5 => hK _ _ _ _ ?_⟩
        · -- 249 taken
          refine rz_blk' [(.iconst 0, 1, 0, 0), (.ireturn, 1, 0, 0)] (by decide +kernel) (Nat.le_refl _) (Nat.le_refl _) (fun K R hK hR => ?_)
          simp only [rw_c0, ↓rx_iconst, ↓rx_ireturn, ↓rx_nil, rz_set, rz_nol, rz_clr, List.set_cons_zero, List.set_cons_succ, rz_tr, Nat.reduceAdd, Int.reduceAdd, Int.reduceToNat, Int.reduceSub, Int.reduceNeg, Int.cast_ofNat_Int]
          try simp (disch := omega) only [rb_0, pk_us, pk_un, va_up_self, va_up_ne, nI_add, pk_mul, nI_clamp, vp_inT, nI_ltI, nI_leI, nI_eqI, pk_sub, true_and, and_true]
          first
            | exact hR _ _ rz_nb_1 (hret _ (by rw [show rb = false by simpa using q4, show wb = false by simpa using q5]; rfl) I3 A3 i3 a3 hrr)
            | exact hR _ _ rz_nb_0 (hret _ (by rw [show rb = true by simpa using q5]; rfl) I3 A3 i3 a3 hrr)
            | exact hR _ _ rz_nb_0 (hret _ (by rw [show wb = true by simpa using q5]; simp; rfl) I3 A3 i3 a3 hrr)
        · -- 249 not taken
          refine rz_blk' [(.iconst 1, 1, 0, 0), (.goto 4, 3, 0, 0)] (by decide +kernel) (Nat.le_refl _) (Nat.le_refl _) (fun K R hK hR => ?_)
          simp only [rw_c1, ↓rx_goto, ↓rx_iconst, ↓rx_nil, rz_set, rz_nol, rz_clr, List.set_cons_zero, List.set_cons_succ, rz_tr, Nat.reduceAdd, Int.reduceAdd, Int.reduceToNat, Int.reduceSub, Int.reduceNeg, Int.cast_ofNat_Int]
          try simp (disch := omega) only [rb_0, pk_us, pk_un, va_up_self, va_up_ne, nI_add, pk_mul, nI_clamp, vp_inT, nI_ltI, nI_leI, nI_eqI, pk_sub, true_and, and_true]
          refine hK _ _ _ _ ?_
          refine rz_blk' [(.ireturn, 1, 0, 0)] (by decide +kernel) (Nat.le_refl _) (Nat.le_refl _) (fun K R hK hR => ?_)
          simp only [↓rx_ireturn, ↓rx_nil, rz_set, rz_nol, rz_clr, List.set_cons_zero, List.set_cons_succ, rz_tr, Nat.reduceAdd, Int.reduceAdd, Int.reduceToNat, Int.reduceSub, Int.reduceNeg, Int.cast_ofNat_Int]
          try simp (disch := omega) only [rb_0, pk_us, pk_un, va_up_self, va_up_ne, nI_add, pk_mul, nI_clamp, vp_inT, nI_ltI, nI_leI, nI_eqI, pk_sub, true_and, and_true]
          first
            | exact hR _ _ rz_nb_1 (hret _ (by rw [show rb = false by simpa using q4, show wb = false by simpa using q5]; rfl) I3 A3 i3 a3 hrr)
            | exact hR _ _ rz_nb_0 (hret _ (by rw [show rb = true by simpa using q5]; rfl) I3 A3 i3 a3 hrr)
            | exact hR _ _ rz_nb_0 (hret _ (by rw [show wb = true by simpa using q5]; simp; rfl) I3 A3 i3 a3 hrr)
    have hE : ∀ (rb wb : Bool) (u1 u2 : List Nat) (I2 : Nat → Int32) (A2 : Nat → Nat → Int32), fi [26, 27, 30, 38, 41, 42, 46, 47] I0 I2 → fa [14, 15, 16, 17, 18, 19, 20, 21, 22, 23, 24, 25, 26, 27, 28, 29, 30, 31, 32, 33, 34, 35, 36, 37, 38, 39, 40, 41, 42, 43, 44, 45, 46, 47, 48, 49] A A2 → xl_is T1 T2 (if T1.1.testBit 0 = true then 1 else 0) (if T2.1.testBit 0 = true then 1 else 0) rb u1 → xm_is T1 T2 (xd_st T1 T2) wb u2 → (∀ t ∈ u1, t < 3) → (∀ t ∈ u2, t < 3) → u1.length ≤ 4096 → u2.length ≤ 4096 → (wb = true → I2 46 = nI u2.length ∧ sg (A2 48) 0 u2) → (rb = true → I2 47 = nI u1.length ∧ sg (A2 49) 0 u1) → rz_T w (d + 6) 0 0 m_Mod_isSame 0 0 169 [some (.ref a), some (.int (nI k1)), some (.int (nI k2)), some (.int (rz_b rb)), some (.int (rz_b wb)), none] [] (re_put G a I2 A2) Q := by
      intro rb wb u1 u2 I2 A2 i2 a2 x1 x2 x3 x4 x5 x6 x7 x8
      have c2 : ∀ (B : Nat → Nat → Int32) (J : Nat → Int32), J 46 = nI u1.length → rz_T w (d + 6) 0 0 m_Mod_isSame 0 0 225 [some (.ref a), some (.int (nI k1)), some (.int (nI k2)), some (.int (rz_b rb)), some (.int (rz_b wb)), some (.int (nI (u1.length)))] [] (re_put G a J (va_up B 48 (cp (B 48) (0) (B 49) (0) (u1.length)))) Q → rz_T w (d + 6) 0 0 m_Mod_isSame 0 0 196 [some (.ref a), some (.int (nI k1)), some (.int (nI k2)), some (.int (rz_b rb)), some (.int (rz_b wb)), some (.int (nI 0))] [] (re_put G a J B) Q := by
        intro B J j46 hx
        have lp : ∀ (cj cx : Nat), cx + cj = u1.length → rz_T w (d + 6) 0 0 m_Mod_isSame 0 0 196 [some (.ref a), some (.int (nI k1)), some (.int (nI k2)), some (.int (rz_b rb)), some (.int (rz_b wb)), some (.int (nI cx))] [] (re_put G a J (va_up B 48 (cp (B 48) (0) (B 49) (0) cx))) Q := by
          intro cj
          induction cj with
          | zero =>
            intro cx hij
            have hi : cx = u1.length := by omega
            subst hi
            refine rz_blk' [(.iload 5, 2, 0, 0), (.aload_n 0, 1, 0, 0), (.getfield 309, 3, 10, 46), (.if_icmp .ge 23, 3, 0, 0)] (by decide +kernel) (Nat.le_refl _) (Nat.le_refl _) (fun K R hK hR => ?_)
            simp only [↓rx_aload_n0, ↓rx_getfield, ↓rx_if_icmp_ge, ↓rx_iload, ↓rx_nil, ↓ry_i2, ↓ry_li0s, ↓ry_li0z, ↓ry_lr0s, ↓ry_lr0z, ↓ry_obu, ↓ry_r1, ↓re_F46, ↓re_ob, j46, rz_set, rz_nol, rz_clr, List.set_cons_zero, List.set_cons_succ, rz_tr, Nat.reduceAdd, Int.reduceAdd, Int.reduceToNat, Int.reduceSub, Int.reduceNeg, Int.cast_ofNat_Int]
            try simp (disch := omega) only [j46, pk_us, pk_un, va_up_self, va_up_ne, nI_add, pk_mul, nI_clamp, vp_inT, nI_ltI, nI_leI, nI_eqI, pk_sub, true_and, and_true]
            refine ⟨fun q6 => hK _ _ _ _ ?_, fun q6 => by omega⟩
            exact hx
          | succ cj ih =>
            intro cx hij
            refine rz_blk' [(.iload 5, 2, 0, 0), (.aload_n 0, 1, 0, 0), (.getfield 309, 3, 10, 46), (.if_icmp .ge 23, 3, 0, 0)] (by decide +kernel) (Nat.le_refl _) (Nat.le_refl _) (fun K R hK hR => ?_)
            simp only [↓rx_aload_n0, ↓rx_getfield, ↓rx_if_icmp_ge, ↓rx_iload, ↓rx_nil, ↓ry_i2, ↓ry_li0s, ↓ry_li0z, ↓ry_lr0s, ↓ry_lr0z, ↓ry_obu, ↓ry_r1, ↓re_F46, ↓re_ob, j46, rz_set, rz_nol, rz_clr, List.set_cons_zero, List.set_cons_succ, rz_tr, Nat.reduceAdd, Int.reduceAdd, Int.reduceToNat, Int.reduceSub, Int.reduceNeg, Int.cast_ofNat_Int]
            try simp (disch := omega) only [j46, pk_us, pk_un, va_up_self, va_up_ne, nI_add, pk_mul, nI_clamp, vp_inT, nI_ltI, nI_leI, nI_eqI, pk_sub, true_and, and_true]
            refine ⟨fun q7 => by omega, fun q7 => hK _ _ _ _ ?_⟩
            refine rz_blk' [(.aload_n 0, 1, 0, 0), (.getfield 126, 3, 10, 48), (.iload 5, 2, 0, 0), (.aload_n 0, 1, 0, 0), (.getfield 129, 3, 10, 49), (.iload 5, 2, 0, 0), (.iaload, 1, 0, 0), (.iastore, 1, 0, 0)] (by decide +kernel) (Nat.le_refl _) (Nat.le_refl _) (fun K R hK hR => ?_)
            simp only [↓rx_aload_n0, ↓rx_getfield, ↓rx_iaload, ↓rx_iastore, ↓rx_iload, ↓rx_nil, ↓ry_iau, ↓ry_li0s, ↓ry_li0z, ↓ry_lr0s, ↓ry_lr0z, ↓ry_obu, ↓ry_r1, ↓ry_ri, ↓ry_rii, true_and, re_a48, re_a49, ↓re_F48, ↓re_F49, ↓re_i48, ↓re_i49, ↓re_ob, j46, rz_set, rz_nol, rz_clr, List.set_cons_zero, List.set_cons_succ, rz_tr, Nat.reduceAdd, Int.reduceAdd, Int.reduceToNat, Int.reduceSub, Int.reduceNeg, Int.cast_ofNat_Int]
            try simp (disch := omega) only [j46, pk_us, pk_un, va_up_self, va_up_ne, nI_add, pk_mul, nI_clamp, vp_inT, nI_ltI, nI_leI, nI_eqI, pk_sub, true_and, and_true]
            refine hK _ _ _ _ ?_
            refine rz_blk' [(.iinc 5 1, 3, 0, 0)] (by decide +kernel) (Nat.le_refl _) (Nat.le_refl _) (fun K R hK hR => ?_)
            simp only [rw_c1, ↓rx_iinc, ↓rx_nil, ↓ry_li0s, ↓ry_li0z, j46, rz_set, rz_nol, rz_clr, List.set_cons_zero, List.set_cons_succ, rz_tr, Nat.reduceAdd, Int.reduceAdd, Int.reduceToNat, Int.reduceSub, Int.reduceNeg, Int.cast_ofNat_Int]
            try simp (disch := omega) only [j46, pk_us, pk_un, va_up_self, va_up_ne, nI_add, pk_mul, nI_clamp, vp_inT, nI_ltI, nI_leI, nI_eqI, pk_sub, true_and, and_true]
            refine hK _ _ _ _ ?_
            refine rz_blk' [(.goto (-26), 3, 0, 0)] (by decide +kernel) (Nat.le_refl _) (Nat.le_refl _) (fun K R hK hR => ?_)
            simp only [↓rx_goto, ↓rx_nil, j46, rz_set, rz_nol, rz_clr, List.set_cons_zero, List.set_cons_succ, rz_tr, Nat.reduceAdd, Int.reduceAdd, Int.reduceToNat, Int.reduceSub, Int.reduceNeg, Int.cast_ofNat_Int]
            try simp (disch := omega) only [j46, pk_us, pk_un, va_up_self, va_up_ne, nI_add, pk_mul, nI_clamp, vp_inT, nI_ltI, nI_leI, nI_eqI, pk_sub, true_and, and_true]
            refine hK _ _ _ _ ?_
            have ih := ih (cx + 1) (by omega)
            rw [← cp_s] at ih
            simp only [Nat.zero_add] at ih
            rw [re_vv]
            exact ih
        have := lp (u1.length) 0 (Nat.zero_add _)
        rw [cp_0, re_ve] at this
        exact this
      have hcp : rb = true → (wb = true → wd_bef u2 u1 = false) → rz_T w (d + 6) 0 0 m_Mod_isSame 0 0 185 [some (.ref a), some (.int (nI k1)), some (.int (nI k2)), some (.int (rz_b rb)), some (.int (rz_b wb)), none] [] (re_put G a I2 A2) Q := by
        intro hrb hwb
        obtain ⟨y1, y2⟩ := x8 hrb
        have hws : xw_s rb u1 wb u2 = u1 := by
          unfold xw_s
          rw [hrb, if_pos rfl]
          cases wb with
          | false => rfl
          | true => rw [hwb rfl]; rfl
        have hgo2 := htl rb wb u1 u2
        rw [hws] at hgo2
        refine rz_blk' [(.aload_n 0, 1, 0, 0), (.aload_n 0, 1, 0, 0), (.getfield 334, 3, 10, 47), (.putfield 309, 3, 10, 46)] (by decide +kernel) (Nat.le_refl _) (Nat.le_refl _) (fun K R hK hR => ?_)
        simp only [List.length_cons, List.length_nil, Nat.reduceLT, rf_10_46, ↓rx_aload_n0, ↓rx_getfield, ↓rx_nil, ↓rx_putfield, ↓ry_lr0s, ↓ry_lr0z, ↓ry_obu, ↓ry_r1, ↓ry_vr, true_and, re_len, re_u46, ↓re_F47, ↓re_ob, y1, rz_set, rz_nol, rz_clr, List.set_cons_zero, List.set_cons_succ, rz_tr, Nat.reduceAdd, Int.reduceAdd, Int.reduceToNat, Int.reduceSub, Int.reduceNeg, Int.cast_ofNat_Int]
        try simp (disch := omega) only [y1, rb_0, pk_us, pk_un, va_up_self, va_up_ne, nI_add, pk_mul, nI_clamp, vp_inT, nI_ltI, nI_leI, nI_eqI, pk_sub, true_and, and_true]
        refine hK _ _ _ _ ?_
        refine rz_blk' [(.iconst 0, 1, 0, 0), (.istore 5, 2, 0, 0)] (by decide +kernel) (Nat.le_refl _) (Nat.le_refl _) (fun K R hK hR => ?_)
        simp only [rw_c0, ↓rx_iconst, ↓rx_istore, ↓rx_nil, ↓ry_i1, y1, rz_set, rz_nol, rz_clr, List.set_cons_zero, List.set_cons_succ, rz_tr, Nat.reduceAdd, Int.reduceAdd, Int.reduceToNat, Int.reduceSub, Int.reduceNeg, Int.cast_ofNat_Int]
        try simp (disch := omega) only [y1, rb_0, pk_us, pk_un, va_up_self, va_up_ne, nI_add, pk_mul, nI_clamp, vp_inT, nI_ltI, nI_leI, nI_eqI, pk_sub, true_and, and_true]
        refine hK _ _ _ _ ?_
        refine c2 _ _ pk_us ?_
        refine rz_blk' [(.iload_n 3, 1, 0, 0), (.ifCond .ne 13, 3, 0, 0)] (by decide +kernel) (Nat.le_refl _) (Nat.le_refl _) (fun K R hK hR => ?_)
        simp only [↓rx_ifCond_ne, ↓rx_iload_n3, ↓rx_nil, ↓ry_i1, ↓ry_li0s, ↓ry_li0z, y1, rz_set, rz_nol, rz_clr, List.set_cons_zero, List.set_cons_succ, rz_tr, Nat.reduceAdd, Int.reduceAdd, Int.reduceToNat, Int.reduceSub, Int.reduceNeg, Int.cast_ofNat_Int]
        try simp (disch := omega) only [y1, rb_0, pk_us, pk_un, va_up_self, va_up_ne, nI_add, pk_mul, nI_clamp, vp_inT, nI_ltI, nI_leI, nI_eqI, pk_sub, true_and, and_true]
        refine ⟨fun q8 => hK _ _ _ _ ?_, fun q8 => hK _ _ _ _ ?_⟩
        · -- 226 taken
          first
            | exact hgo2 _ _ _ (i2.u rfl) (a2.u rfl) x1 x2 x3 x4 x5 pk_us (by rw [va_up_self]; exact sg_cp y2 (Nat.le_refl _))
            | (exfalso; rw [hrb] at @2; cases @2)
            | (exfalso; simp_all)
        · -- 226 not taken
          refine rz_blk' [(.iload 4, 2, 0, 0), (.ifCond .ne 8, 3, 0, 0)] (by decide +kernel) (Nat.le_refl _) (Nat.le_refl _) (fun K R hK hR => ?_)
          simp only [↓rx_ifCond_ne, ↓rx_iload, ↓rx_nil, ↓ry_i1, ↓ry_li0s, ↓ry_li0z, y1, rz_set, rz_nol, rz_clr, List.set_cons_zero, List.set_cons_succ, rz_tr, Nat.reduceAdd, Int.reduceAdd, Int.reduceToNat, Int.reduceSub, Int.reduceNeg, Int.cast_ofNat_Int]
          try simp (disch := omega) only [y1, rb_0, pk_us, pk_un, va_up_self, va_up_ne, nI_add, pk_mul, nI_clamp, vp_inT, nI_ltI, nI_leI, nI_eqI, pk_sub, true_and, and_true]
          refine ⟨fun q9 => hK _ _ _ _ ?_, fun q9 => hK _ _ _ _ ?_⟩
          · -- 231 taken
            first
              | exact hgo2 _ _ _ (i2.u rfl) (a2.u rfl) x1 x2 x3 x4 x5 pk_us (by rw [va_up_self]; exact sg_cp y2 (Nat.le_refl _))
              | (exfalso; rw [hrb] at q8; cases q8)
              | (exfalso; simp_all)
          · -- 231 not taken
            refine rz_blk' [(.aload_n 0, 1, 0, 0), (.iconst 0, 1, 0, 0), (.putfield 309, 3, 10, 46)] (by decide +kernel) (Nat.le_refl _) (Nat.le_refl _) (fun K R hK hR => ?_)
            simp only [List.length_cons, List.length_nil, Nat.reduceLT, rf_10_46, rw_c0, ↓rx_aload_n0, ↓rx_iconst, ↓rx_nil, ↓rx_putfield, ↓ry_lr0s, ↓ry_lr0z, ↓ry_obu, ↓ry_vr, true_and, re_len, re_u46, ↓re_ob, y1, rz_set, rz_nol, rz_clr, List.set_cons_zero, List.set_cons_succ, rz_tr, Nat.reduceAdd, Int.reduceAdd, Int.reduceToNat, Int.reduceSub, Int.reduceNeg, Int.cast_ofNat_Int]
            try simp (disch := omega) only [y1, rb_0, pk_us, pk_un, va_up_self, va_up_ne, nI_add, pk_mul, nI_clamp, vp_inT, nI_ltI, nI_leI, nI_eqI, pk_sub, true_and, and_true]
            refine hK _ _ _ _ ?_
            first
              | exact hgo2 _ _ _ (i2.u rfl) (a2.u rfl) x1 x2 x3 x4 x5 pk_us (by rw [va_up_self]; exact sg_cp y2 (Nat.le_refl _))
              | (exfalso; rw [hrb] at q8; cases q8)
              | (exfalso; simp_all)
      have hws2 := htl rb wb u1 u2
      refine rz_blk' [(.iload_n 3, 1, 0, 0), (.ifCond .eq 55, 3, 0, 0)] (by decide +kernel) (Nat.le_refl _) (Nat.le_refl _) (fun K R hK hR => ?_)
      simp only [↓rx_ifCond_eq, ↓rx_iload_n3, ↓rx_nil, ↓ry_i1, ↓ry_li0s, ↓ry_li0z, rz_set, rz_nol, rz_clr, List.set_cons_zero, List.set_cons_succ, rz_tr, Nat.reduceAdd, Int.reduceAdd, Int.reduceToNat, Int.reduceSub, Int.reduceNeg, Int.cast_ofNat_Int]
      try simp (disch := omega) only [rb_0, pk_us, pk_un, va_up_self, va_up_ne, nI_add, pk_mul, nI_clamp, vp_inT, nI_ltI, nI_leI, nI_eqI, pk_sub, true_and, and_true]
      refine ⟨fun q10 => hK _ _ _ _ ?_, fun q10 => hK _ _ _ _ ?_⟩
      · -- 170 taken
        refine rz_blk' [(.iload_n 3, 1, 0, 0), (.ifCond .ne 13, 3, 0, 0)] (by decide +kernel) (Nat.le_refl _) (Nat.le_refl _) (fun K R hK hR => ?_)
        simp only [↓rx_ifCond_ne, ↓rx_iload_n3, ↓rx_nil, ↓ry_i1, ↓ry_li0s, ↓ry_li0z, rz_set, rz_nol, rz_clr, List.set_cons_zero, List.set_cons_succ, rz_tr, Nat.reduceAdd, Int.reduceAdd, Int.reduceToNat, Int.reduceSub, Int.reduceNeg, Int.cast_ofNat_Int]
        try simp (disch := omega) only [rb_0, pk_us, pk_un, va_up_self, va_up_ne, nI_add, pk_mul, nI_clamp, vp_inT, nI_ltI, nI_leI, nI_eqI, pk_sub, true_and, and_true]
        refine ⟨fun q11 => hK _ _ _ _ ?_, fun q11 => hK _ _ _ _ ?_⟩
        · -- 226 taken
          first
            | (have e1 : rb = false := (by assumption)
               have e2 : wb = false := (by first | assumption | simpa using q11)
               have e : xw_s rb u1 wb u2 = [] := by rw [e1, e2]; rfl
               rw [e] at hws2
               exact hws2 _ _ _ (i2.u rfl) a2 x1 x2 x3 x4 (by simp) pk_us sg_nil)
            | (have e1 : rb = false := (by assumption)
               have e2 : wb = true := (by simpa using q11)
               have e : xw_s rb u1 wb u2 = u2 := by rw [e1, e2]; rfl
               rw [e] at hws2
               exact hws2 _ _ _ i2 a2 x1 x2 x3 x4 x6 (x7 e2).1 (x7 e2).2)
            | (have e1 : wd_bef u2 u1 = true := (by simpa using q10)
               have e : xw_s rb u1 wb u2 = u2 := by rw [hrbt, hwbt]; simp [xw_s, e1]
               rw [e] at hws2
               exact hws2 _ _ _ i2 a2 x1 x2 x3 x4 x6 (x7 hwbt).1 (x7 hwbt).2)
            | (exfalso; simp_all; done)
        · -- 226 not taken
          refine rz_blk' [(.iload 4, 2, 0, 0), (.ifCond .ne 8, 3, 0, 0)] (by decide +kernel) (Nat.le_refl _) (Nat.le_refl _) (fun K R hK hR => ?_)
          simp only [↓rx_ifCond_ne, ↓rx_iload, ↓rx_nil, ↓ry_i1, ↓ry_li0s, ↓ry_li0z, rz_set, rz_nol, rz_clr, List.set_cons_zero, List.set_cons_succ, rz_tr, Nat.reduceAdd, Int.reduceAdd, Int.reduceToNat, Int.reduceSub, Int.reduceNeg, Int.cast_ofNat_Int]
          try simp (disch := omega) only [rb_0, pk_us, pk_un, va_up_self, va_up_ne, nI_add, pk_mul, nI_clamp, vp_inT, nI_ltI, nI_leI, nI_eqI, pk_sub, true_and, and_true]
          refine ⟨fun q12 => hK _ _ _ _ ?_, fun q12 => hK _ _ _ _ ?_⟩
          · -- 231 taken
            first
              | (have e1 : rb = false := (by assumption)
                 have e2 : wb = false := (by first | assumption | simpa using q12)
                 have e : xw_s rb u1 wb u2 = [] := by rw [e1, e2]; rfl
                 rw [e] at hws2
                 exact hws2 _ _ _ (i2.u rfl) a2 x1 x2 x3 x4 (by simp) pk_us sg_nil)
              | (have e1 : rb = false := (by assumption)
                 have e2 : wb = true := (by simpa using q12)
                 have e : xw_s rb u1 wb u2 = u2 := by rw [e1, e2]; rfl
                 rw [e] at hws2
                 exact hws2 _ _ _ i2 a2 x1 x2 x3 x4 x6 (x7 e2).1 (x7 e2).2)
              | (have e1 : wd_bef u2 u1 = true := (by simpa using q11)
                 have e : xw_s rb u1 wb u2 = u2 := by rw [hrbt, hwbt]; simp [xw_s, e1]
                 rw [e] at hws2
                 exact hws2 _ _ _ i2 a2 x1 x2 x3 x4 x6 (x7 hwbt).1 (x7 hwbt).2)
              | (exfalso; simp_all; done)
          · -- 231 not taken
            refine rz_blk' [(.aload_n 0, 1, 0, 0), (.iconst 0, 1, 0, 0), (.putfield 309, 3, 10, 46)] (by decide +kernel) (Nat.le_refl _) (Nat.le_refl _) (fun K R hK hR => ?_)
            simp only [List.length_cons, List.length_nil, Nat.reduceLT, rf_10_46, rw_c0, ↓rx_aload_n0, ↓rx_iconst, ↓rx_nil, ↓rx_putfield, ↓ry_lr0s, ↓ry_lr0z, ↓ry_obu, ↓ry_vr, true_and, re_len, re_u46, ↓re_ob, rz_set, rz_nol, rz_clr, List.set_cons_zero, List.set_cons_succ, rz_tr, Nat.reduceAdd, Int.reduceAdd, Int.reduceToNat, Int.reduceSub, Int.reduceNeg, Int.cast_ofNat_Int]
            try simp (disch := omega) only [rb_0, pk_us, pk_un, va_up_self, va_up_ne, nI_add, pk_mul, nI_clamp, vp_inT, nI_ltI, nI_leI, nI_eqI, pk_sub, true_and, and_true]
            refine hK _ _ _ _ ?_
            first
              | (have e1 : rb = false := (by assumption)
                 have e2 : wb = false := (by first | assumption | simpa using q12)
                 have e : xw_s rb u1 wb u2 = [] := by rw [e1, e2]; rfl
                 rw [e] at hws2
                 exact hws2 _ _ _ (i2.u rfl) a2 x1 x2 x3 x4 (by simp) pk_us sg_nil)
              | (have e1 : rb = false := (by assumption)
                 have e2 : wb = true := (by simpa using q12)
                 have e : xw_s rb u1 wb u2 = u2 := by rw [e1, e2]; rfl
                 rw [e] at hws2
                 exact hws2 _ _ _ i2 a2 x1 x2 x3 x4 x6 (x7 e2).1 (x7 e2).2)
              | (have e1 : wd_bef u2 u1 = true := (by simpa using q11)
                 have e : xw_s rb u1 wb u2 = u2 := by rw [hrbt, hwbt]; simp [xw_s, e1]
                 rw [e] at hws2
                 exact hws2 _ _ _ i2 a2 x1 x2 x3 x4 x6 (x7 hwbt).1 (x7 hwbt).2)
              | (exfalso; simp_all; done)
      · -- 170 not taken
        refine rz_blk' [(.iload 4, 2, 0, 0), (.ifCond .eq 10, 3, 0, 0)] (by decide +kernel) (Nat.le_refl _) (Nat.le_refl _) (fun K R hK hR => ?_)
        simp only [↓rx_ifCond_eq, ↓rx_iload, ↓rx_nil, ↓ry_i1, ↓ry_li0s, ↓ry_li0z, rz_set, rz_nol, rz_clr, List.set_cons_zero, List.set_cons_succ, rz_tr, Nat.reduceAdd, Int.reduceAdd, Int.reduceToNat, Int.reduceSub, Int.reduceNeg, Int.cast_ofNat_Int]
        try simp (disch := omega) only [rb_0, pk_us, pk_un, va_up_self, va_up_ne, nI_add, pk_mul, nI_clamp, vp_inT, nI_ltI, nI_leI, nI_eqI, pk_sub, true_and, and_true]
        refine ⟨fun q13 => hK _ _ _ _ ?_, fun q13 => hK _ _ _ _ ?_⟩
        · -- 175 taken
          first
            | exact hcp (by simpa using q10) (fun q => by rw [(by assumption : wb = false)] at q; cases q)
            | exact hcp (by simpa using @3) (fun _ => q13)
        · -- 175 not taken
          have hwbt : wb = true := by simpa using q13
          have hrbt : rb = true := by simpa using q10
          obtain ⟨y1, y2⟩ := x7 hwbt
          obtain ⟨y3, y4⟩ := x8 hrbt
          have hwbf := c_Mod_isWordBefore (w := w) (d := d + 5) (G := G) (a := a) y1 y2 y3 y4 x6 x5 x4 x3
          refine rz_blk' [(.aload_n 0, 1, 0, 0)] (by decide +kernel) (Nat.le_refl _) (Nat.le_refl _) (fun K R hK hR => ?_)
          simp only [↓rx_aload_n0, ↓rx_nil, ↓ry_lr0s, ↓ry_lr0z, rz_set, rz_nol, rz_clr, List.set_cons_zero, List.set_cons_succ, rz_tr, Nat.reduceAdd, Int.reduceAdd, Int.reduceToNat, Int.reduceSub, Int.reduceNeg, Int.cast_ofNat_Int]
          try simp (disch := omega) only [rb_0, pk_us, pk_un, va_up_self, va_up_ne, nI_add, pk_mul, nI_clamp, vp_inT, nI_ltI, nI_leI, nI_eqI, pk_sub, true_and, and_true]
          refine hK _ _ _ _ ?_
          refine rz_cV (As := []) (b := a) (S := []) l_Mod_341 (by decide +kernel) rfl re_at0 rfl (Nat.le_of_ble_eq_true rfl) (Nat.le_refl _) (Nat.le_refl _) (hwbf) (fun r G' hr => ?_)
          obtain ⟨rfl, rfl⟩ := hr
          simp only [Option.toList, List.cons_append, List.nil_append]
          refine rz_blk' [(.ifCond .ne 43, 3, 0, 0)] (by decide +kernel) (Nat.le_refl _) (Nat.le_refl _) (fun K R hK hR => ?_)
          simp only [↓rx_ifCond_ne, ↓rx_nil, ↓ry_i1, rz_set, rz_nol, rz_clr, List.set_cons_zero, List.set_cons_succ, rz_tr, Nat.reduceAdd, Int.reduceAdd, Int.reduceToNat, Int.reduceSub, Int.reduceNeg, Int.cast_ofNat_Int]
          try simp (disch := omega) only [rb_0, pk_us, pk_un, va_up_self, va_up_ne, nI_add, pk_mul, nI_clamp, vp_inT, nI_ltI, nI_leI, nI_eqI, pk_sub, true_and, and_true]
          refine ⟨fun q14 => hK _ _ _ _ ?_, fun q14 => hK _ _ _ _ ?_⟩
          · -- 182 taken
            refine rz_blk' [(.iload_n 3, 1, 0, 0), (.ifCond .ne 13, 3, 0, 0)] (by decide +kernel) (Nat.le_refl _) (Nat.le_refl _) (fun K R hK hR => ?_)
            simp only [↓rx_ifCond_ne, ↓rx_iload_n3, ↓rx_nil, ↓ry_i1, ↓ry_li0s, ↓ry_li0z, rz_set, rz_nol, rz_clr, List.set_cons_zero, List.set_cons_succ, rz_tr, Nat.reduceAdd, Int.reduceAdd, Int.reduceToNat, Int.reduceSub, Int.reduceNeg, Int.cast_ofNat_Int]
            try simp (disch := omega) only [rb_0, pk_us, pk_un, va_up_self, va_up_ne, nI_add, pk_mul, nI_clamp, vp_inT, nI_ltI, nI_leI, nI_eqI, pk_sub, true_and, and_true]
            refine ⟨fun q15 => hK _ _ _ _ ?_, fun q15 => hK _ _ _ _ ?_⟩
            · -- 226 taken
              first
                | (have e1 : rb = false := (by assumption)
                   have e2 : wb = false := (by first | assumption | simpa using q15)
                   have e : xw_s rb u1 wb u2 = [] := by rw [e1, e2]; rfl
                   rw [e] at hws2
                   exact hws2 _ _ _ (i2.u rfl) a2 x1 x2 x3 x4 (by simp) pk_us sg_nil)
                | (have e1 : rb = false := (by assumption)
                   have e2 : wb = true := (by simpa using q15)
                   have e : xw_s rb u1 wb u2 = u2 := by rw [e1, e2]; rfl
                   rw [e] at hws2
                   exact hws2 _ _ _ i2 a2 x1 x2 x3 x4 x6 (x7 e2).1 (x7 e2).2)
                | (have e1 : wd_bef u2 u1 = true := (by simpa using q14)
                   have e : xw_s rb u1 wb u2 = u2 := by rw [hrbt, hwbt]; simp [xw_s, e1]
                   rw [e] at hws2
                   exact hws2 _ _ _ i2 a2 x1 x2 x3 x4 x6 (x7 hwbt).1 (x7 hwbt).2)
                | (exfalso; simp_all; done)
            · -- 226 not taken
              refine rz_blk' [(.iload 4, 2, 0, 0), (.ifCond .ne 8, 3, 0, 0)] (by decide +kernel) (Nat.le_refl _) (Nat.le_refl _) (fun K R hK hR => ?_)
              simp only [↓rx_ifCond_ne, ↓rx_iload, ↓rx_nil, ↓ry_i1, ↓ry_li0s, ↓ry_li0z, rz_set, rz_nol, rz_clr, List.set_cons_zero, List.set_cons_succ, rz_tr, Nat.reduceAdd, Int.reduceAdd, Int.reduceToNat, Int.reduceSub, Int.reduceNeg, Int.cast_ofNat_Int]
              try simp (disch := omega) only [rb_0, pk_us, pk_un, va_up_self, va_up_ne, nI_add, pk_mul, nI_clamp, vp_inT, nI_ltI, nI_leI, nI_eqI, pk_sub, true_and, and_true]
              refine ⟨fun q16 => hK _ _ _ _ ?_, fun q16 => hK _ _ _ _ ?_⟩
              · -- 231 taken
                first
                  | (have e1 : rb = false := (by assumption)
                     have e2 : wb = false := (by first | assumption | simpa using q16)
                     have e : xw_s rb u1 wb u2 = [] := by rw [e1, e2]; rfl
                     rw [e] at hws2
                     exact hws2 _ _ _ (i2.u rfl) a2 x1 x2 x3 x4 (by simp) pk_us sg_nil)
                  | (have e1 : rb = false := (by assumption)
                     have e2 : wb = true := (by simpa using q16)
                     have e : xw_s rb u1 wb u2 = u2 := by rw [e1, e2]; rfl
                     rw [e] at hws2
                     exact hws2 _ _ _ i2 a2 x1 x2 x3 x4 x6 (x7 e2).1 (x7 e2).2)
                  | (have e1 : wd_bef u2 u1 = true := (by simpa using q15)
                     have e : xw_s rb u1 wb u2 = u2 := by rw [hrbt, hwbt]; simp [xw_s, e1]
                     rw [e] at hws2
                     exact hws2 _ _ _ i2 a2 x1 x2 x3 x4 x6 (x7 hwbt).1 (x7 hwbt).2)
                  | (exfalso; simp_all; done)
              · -- 231 not taken
                refine rz_blk' [(.aload_n 0, 1, 0, 0), (.iconst 0, 1, 0, 0), (.putfield 309, 3, 10, 46)] (by decide +kernel) (Nat.le_refl _) (Nat.le_refl _) (fun K R hK hR => ?_)
                simp only [List.length_cons, List.length_nil, Nat.reduceLT, rf_10_46, rw_c0, ↓rx_aload_n0, ↓rx_iconst, ↓rx_nil, ↓rx_putfield, ↓ry_lr0s, ↓ry_lr0z, ↓ry_obu, ↓ry_vr, true_and, re_len, re_u46, ↓re_ob, rz_set, rz_nol, rz_clr, List.set_cons_zero, List.set_cons_succ, rz_tr, Nat.reduceAdd, Int.reduceAdd, Int.reduceToNat, Int.reduceSub, Int.reduceNeg, Int.cast_ofNat_Int]
                try simp (disch := omega) only [rb_0, pk_us, pk_un, va_up_self, va_up_ne, nI_add, pk_mul, nI_clamp, vp_inT, nI_ltI, nI_leI, nI_eqI, pk_sub, true_and, and_true]
                refine hK _ _ _ _ ?_
                first
                  | (have e1 : rb = false := (by assumption)
                     have e2 : wb = false := (by first | assumption | simpa using q16)
                     have e : xw_s rb u1 wb u2 = [] := by rw [e1, e2]; rfl
                     rw [e] at hws2
                     exact hws2 _ _ _ (i2.u rfl) a2 x1 x2 x3 x4 (by simp) pk_us sg_nil)
                  | (have e1 : rb = false := (by assumption)
                     have e2 : wb = true := (by simpa using q16)
                     have e : xw_s rb u1 wb u2 = u2 := by rw [e1, e2]; rfl
                     rw [e] at hws2
                     exact hws2 _ _ _ i2 a2 x1 x2 x3 x4 x6 (x7 e2).1 (x7 e2).2)
                  | (have e1 : wd_bef u2 u1 = true := (by simpa using q15)
                     have e : xw_s rb u1 wb u2 = u2 := by rw [hrbt, hwbt]; simp [xw_s, e1]
                     rw [e] at hws2
                     exact hws2 _ _ _ i2 a2 x1 x2 x3 x4 x6 (x7 hwbt).1 (x7 hwbt).2)
                  | (exfalso; simp_all; done)
          · -- 182 not taken
            first
              | exact hcp (by simpa using q13) (fun q => by rw [(by assumption : wb = false)] at q; cases q)
              | exact hcp (by simpa using q10) (fun _ => q14)
    have hC : ∀ (rb : Bool) (u1 : List Nat) (I2 : Nat → Int32) (A2 : Nat → Nat → Int32) (z4 : Option Value), fi [26, 27, 30, 38, 41, 42, 46, 47] I0 I2 → fa [14, 15, 16, 17, 18, 19, 20, 21, 22, 23, 24, 25, 26, 27, 28, 29, 30, 31, 32, 33, 34, 35, 36, 37, 38, 39, 40, 41, 42, 43, 44, 45, 46, 47, 48, 49] A A2 → re_t A2 0 T1 → re_t A2 1 T2 → xl_is T1 T2 (if T1.1.testBit 0 = true then 1 else 0) (if T2.1.testBit 0 = true then 1 else 0) rb u1 → (∀ t ∈ u1, t < 3) → u1.length ≤ 4096 → (rb = true → I2 47 = nI u1.length ∧ sg (A2 49) 0 u1) → rz_T w (d + 6) 0 0 m_Mod_isSame 0 0 148 [some (.ref a), some (.int (nI k1)), some (.int (nI k2)), some (.int (rz_b rb)), z4, none] [] (re_put G a I2 A2) Q := by
      intro rb u1 I2 A2 z4 i2 a2 t1 t2 x1 x2 x3 x4
      have hds := c_Mod_differsFromStart (w := w) (d := d + 1) (G := G) (a := a) (I := I2) (A := A2) (g := 0) (hh := 1) (by decide) (by decide) t1 t2 htw1 htw2
      refine rz_blk' [(.aload_n 0, 1, 0, 0), (.iconst 0, 1, 0, 0), (.iconst 1, 1, 0, 0)] (by decide +kernel) (Nat.le_refl _) (Nat.le_refl _) (fun K R hK hR => ?_)
      simp only [rw_c0, rw_c1, ↓rx_aload_n0, ↓rx_iconst, ↓rx_nil, ↓ry_lr0s, ↓ry_lr0z, rz_set, rz_nol, rz_clr, List.set_cons_zero, List.set_cons_succ, rz_tr, Nat.reduceAdd, Int.reduceAdd, Int.reduceToNat, Int.reduceSub, Int.reduceNeg, Int.cast_ofNat_Int]
      try simp (disch := omega) only [rb_0, pk_us, pk_un, va_up_self, va_up_ne, nI_add, pk_mul, nI_clamp, vp_inT, nI_ltI, nI_leI, nI_eqI, pk_sub, true_and, and_true]
      refine hK _ _ _ _ ?_
      refine rz_cV (As := [.int (nI 0), .int (nI 1)]) (b := a) (S := []) l_Mod_312 (by decide +kernel) rfl re_at0 rfl (Nat.le_of_ble_eq_true rfl) (Nat.le_refl _) (Nat.le_refl _) (hds) (fun r G' hr => ?_)
      obtain ⟨I3, A3, wb, u2, rfl, rfl, i3, a3, W, kk, y1, y2, y3, y4, y5⟩ := hr
      simp only [Option.toList, List.cons_append, List.nil_append]
      have hl2 := xw_len y2 kk kk u2 (Nat.le_refl _) y4
      have hkl2 := (List.getElem?_eq_some_iff.mp y4).1
      refine rz_blk' [(.istore 4, 2, 0, 0)] (by decide +kernel) (Nat.le_refl _) (Nat.le_refl _) (fun K R hK hR => ?_)
      simp only [↓rx_istore, ↓rx_nil, ↓ry_i1, rz_set, rz_nol, rz_clr, List.set_cons_zero, List.set_cons_succ, rz_tr, Nat.reduceAdd, Int.reduceAdd, Int.reduceToNat, Int.reduceSub, Int.reduceNeg, Int.cast_ofNat_Int]
      try simp (disch := omega) only [rb_0, pk_us, pk_un, va_up_self, va_up_ne, nI_add, pk_mul, nI_clamp, vp_inT, nI_ltI, nI_leI, nI_eqI, pk_sub, true_and, and_true]
      refine hK _ _ _ _ ?_
      refine rz_blk' [(.iload 4, 2, 0, 0), (.ifCond .eq 11, 3, 0, 0)] (by decide +kernel) (Nat.le_refl _) (Nat.le_refl _) (fun K R hK hR => ?_)
      simp only [↓rx_ifCond_eq, ↓rx_iload, ↓rx_nil, ↓ry_i1, ↓ry_li0s, ↓ry_li0z, rz_set, rz_nol, rz_clr, List.set_cons_zero, List.set_cons_succ, rz_tr, Nat.reduceAdd, Int.reduceAdd, Int.reduceToNat, Int.reduceSub, Int.reduceNeg, Int.cast_ofNat_Int]
      try simp (disch := omega) only [rb_0, pk_us, pk_un, va_up_self, va_up_ne, nI_add, pk_mul, nI_clamp, vp_inT, nI_ltI, nI_leI, nI_eqI, pk_sub, true_and, and_true]
      refine ⟨fun q17 => hK _ _ _ _ ?_, fun q17 => hK _ _ _ _ ?_⟩
      · -- 158 taken
        refine hE rb wb u1 u2 I3 A3 (i2.t i3 rfl) (a2.t a3 rfl) x1 y5 x2 hl2.2 x3 (by omega) (fun q => ?_) (fun hrb => ?_)
        · rw [(by assumption : wb = false)] at q; cases q
        · rw [i3 47 rfl, a3 49 rfl]; exact x4 hrb
      · -- 158 not taken
        have hwbt : wb = true := by simpa using q17
        have y1 := y1 hwbt
        have hsp := c_Mod_spell (w := w) (d := d + 5) (G := G) (a := a) (I := I3) (A := A3) y2 y4
        refine rz_blk' [(.aload_n 0, 1, 0, 0), (.aload_n 0, 1, 0, 0), (.getfield 293, 3, 10, 41)] (by decide +kernel) (Nat.le_refl _) (Nat.le_refl _) (fun K R hK hR => ?_)
        simp only [↓rx_aload_n0, ↓rx_getfield, ↓rx_nil, ↓ry_lr0s, ↓ry_lr0z, ↓ry_obu, ↓ry_r1, ↓re_F41, ↓re_ob, y1, rz_set, rz_nol, rz_clr, List.set_cons_zero, List.set_cons_succ, rz_tr, Nat.reduceAdd, Int.reduceAdd, Int.reduceToNat, Int.reduceSub, Int.reduceNeg, Int.cast_ofNat_Int]
        try simp (disch := omega) only [y1, rb_0, pk_us, pk_un, va_up_self, va_up_ne, nI_add, pk_mul, nI_clamp, vp_inT, nI_ltI, nI_leI, nI_eqI, pk_sub, true_and, and_true]
        refine hK _ _ _ _ ?_
        refine rz_cV (As := [.int (nI kk)]) (b := a) (S := []) l_Mod_318 (by decide +kernel) rfl re_at0 rfl (Nat.le_of_ble_eq_true rfl) (Nat.le_refl _) (Nat.le_refl _) (hsp) (fun r G' hr => ?_)
        obtain ⟨rfl, I4, A4, rfl, i4, a4, y6, y7⟩ := hr
        simp only [Option.toList, List.nil_append]
        refine hE rb wb u1 u2 I4 A4 ((i2.t i3 rfl).t i4 rfl) ((a2.t a3 rfl).t a4 rfl) x1 y5 x2 hl2.2 x3 (by omega) (fun _ => ⟨y6, y7⟩) (fun hrb => ?_)
        rw [i4 47 rfl, i3 47 rfl, a4 49 rfl, a3 49 rfl]; exact x4 hrb
    have htk1 := c_Mod_take (w := w) (d := d + 3) (G := G) (a := a) (I := I1) (A := A1) (k := k1) (hh := 0) hk1 (by decide) (re_m_keep hm1 (fun f x ho => by rw [a1 f (by unfold re_own at ho; simp; omega)]))
    rw [hT1] at htk1
    have hrd : ∀ (A2 : Nat → Nat → Int32), fa [14, 15, 16, 17, 18, 19, 20, 21, 22, 23, 24, 25, 26, 27, 28, 29, 30, 31, 32, 33, 34, 35, 36, 37, 38, 39, 40, 41, 42, 43, 44, 45, 46, 47, 48, 49] A A2 → re_t A2 0 T1 → re_t A2 1 T2 → rz_T w (d + 6) 0 0 m_Mod_isSame 0 0 92 [some (.ref a), some (.int (nI k1)), some (.int (nI k2)), none, none, none] [.int (nI 1), .int (nI 0), .int (nI (if T2.1.testBit 0 = true then 1 else 0)), .int (nI (if T1.1.testBit 0 = true then 1 else 0)), .ref a] (re_put G a I1 A2) Q := by
      intro A2 a2 t1 t2
      have hra := c_Mod_readsApart (w := w) (d := d + 4) (G := G) (a := a) (I := I1) (A := A2) (g := 0) (hh := 1) (s1 := (if T1.1.testBit 0 = true then 1 else 0)) (s2 := (if T2.1.testBit 0 = true then 1 else 0)) (by decide) (by decide) t1 t2 htw1' htw2' (by split <;> decide) (by split <;> decide)
      have c1 : ∀ (B : Nat → Nat → Int32) (n : Nat) (J : Nat → Int32) (z3 : Int32), n ≤ 4100 → J 46 = nI n → rz_T w (d + 6) 0 0 m_Mod_isSame 0 0 148 [some (.ref a), some (.int (nI k1)), some (.int (nI k2)), some (.int z3), some (.int (nI (n))), none] [] (re_put G a J (va_up B 49 (cp (B 49) (0) (B 48) (0) (n)))) Q → rz_T w (d + 6) 0 0 m_Mod_isSame 0 0 119 [some (.ref a), some (.int (nI k1)), some (.int (nI k2)), some (.int z3), some (.int (nI 0)), none] [] (re_put G a J B) Q := by
        intro B n J z3 hn j46x hx
        have lp : ∀ (cj cx : Nat), cx + cj = n → rz_T w (d + 6) 0 0 m_Mod_isSame 0 0 119 [some (.ref a), some (.int (nI k1)), some (.int (nI k2)), some (.int z3), some (.int (nI cx)), none] [] (re_put G a J (va_up B 49 (cp (B 49) (0) (B 48) (0) cx))) Q := by
          intro cj
          induction cj with
          | zero =>
            intro cx hij
            have hi : cx = n := by omega
            rw [hi]
            refine rz_blk' [(.iload 4, 2, 0, 0), (.aload_n 0, 1, 0, 0), (.getfield 309, 3, 10, 46), (.if_icmp .ge 23, 3, 0, 0)] (by decide +kernel) (Nat.le_refl _) (Nat.le_refl _) (fun K R hK hR => ?_)
            simp only [↓rx_aload_n0, ↓rx_getfield, ↓rx_if_icmp_ge, ↓rx_iload, ↓rx_nil, ↓ry_i2, ↓ry_li0s, ↓ry_li0z, ↓ry_lr0s, ↓ry_lr0z, ↓ry_obu, ↓ry_r1, ↓re_F46, ↓re_ob, j46x, rz_set, rz_nol, rz_clr, List.set_cons_zero, List.set_cons_succ, rz_tr, Nat.reduceAdd, Int.reduceAdd, Int.reduceToNat, Int.reduceSub, Int.reduceNeg, Int.cast_ofNat_Int]
            try simp (disch := omega) only [j46x, pk_us, pk_un, va_up_self, va_up_ne, nI_add, pk_mul, nI_clamp, vp_inT, nI_ltI, nI_leI, nI_eqI, pk_sub, true_and, and_true]
            refine ⟨fun q18 => hK _ _ _ _ ?_, fun q18 => by omega⟩
            exact hx
          | succ cj ih =>
            intro cx hij
            refine rz_blk' [(.iload 4, 2, 0, 0), (.aload_n 0, 1, 0, 0), (.getfield 309, 3, 10, 46), (.if_icmp .ge 23, 3, 0, 0)] (by decide +kernel) (Nat.le_refl _) (Nat.le_refl _) (fun K R hK hR => ?_)
            simp only [↓rx_aload_n0, ↓rx_getfield, ↓rx_if_icmp_ge, ↓rx_iload, ↓rx_nil, ↓ry_i2, ↓ry_li0s, ↓ry_li0z, ↓ry_lr0s, ↓ry_lr0z, ↓ry_obu, ↓ry_r1, ↓re_F46, ↓re_ob, j46x, rz_set, rz_nol, rz_clr, List.set_cons_zero, List.set_cons_succ, rz_tr, Nat.reduceAdd, Int.reduceAdd, Int.reduceToNat, Int.reduceSub, Int.reduceNeg, Int.cast_ofNat_Int]
            try simp (disch := omega) only [j46x, pk_us, pk_un, va_up_self, va_up_ne, nI_add, pk_mul, nI_clamp, vp_inT, nI_ltI, nI_leI, nI_eqI, pk_sub, true_and, and_true]
            refine ⟨fun q19 => by omega, fun q19 => hK _ _ _ _ ?_⟩
            refine rz_blk' [(.aload_n 0, 1, 0, 0), (.getfield 129, 3, 10, 49), (.iload 4, 2, 0, 0), (.aload_n 0, 1, 0, 0), (.getfield 126, 3, 10, 48), (.iload 4, 2, 0, 0), (.iaload, 1, 0, 0), (.iastore, 1, 0, 0)] (by decide +kernel) (Nat.le_refl _) (Nat.le_refl _) (fun K R hK hR => ?_)
            simp only [↓rx_aload_n0, ↓rx_getfield, ↓rx_iaload, ↓rx_iastore, ↓rx_iload, ↓rx_nil, ↓ry_iau, ↓ry_li0s, ↓ry_li0z, ↓ry_lr0s, ↓ry_lr0z, ↓ry_obu, ↓ry_r1, ↓ry_ri, ↓ry_rii, true_and, re_a48, re_a49, ↓re_F48, ↓re_F49, ↓re_i48, ↓re_i49, ↓re_ob, j46x, rz_set, rz_nol, rz_clr, List.set_cons_zero, List.set_cons_succ, rz_tr, Nat.reduceAdd, Int.reduceAdd, Int.reduceToNat, Int.reduceSub, Int.reduceNeg, Int.cast_ofNat_Int]
            try simp (disch := omega) only [j46x, pk_us, pk_un, va_up_self, va_up_ne, nI_add, pk_mul, nI_clamp, vp_inT, nI_ltI, nI_leI, nI_eqI, pk_sub, true_and, and_true]
            refine hK _ _ _ _ ?_
            refine rz_blk' [(.iinc 4 1, 3, 0, 0)] (by decide +kernel) (Nat.le_refl _) (Nat.le_refl _) (fun K R hK hR => ?_)
            simp only [rw_c1, ↓rx_iinc, ↓rx_nil, ↓ry_li0s, ↓ry_li0z, j46x, rz_set, rz_nol, rz_clr, List.set_cons_zero, List.set_cons_succ, rz_tr, Nat.reduceAdd, Int.reduceAdd, Int.reduceToNat, Int.reduceSub, Int.reduceNeg, Int.cast_ofNat_Int]
            try simp (disch := omega) only [j46x, pk_us, pk_un, va_up_self, va_up_ne, nI_add, pk_mul, nI_clamp, vp_inT, nI_ltI, nI_leI, nI_eqI, pk_sub, true_and, and_true]
            refine hK _ _ _ _ ?_
            refine rz_blk' [(.goto (-26), 3, 0, 0)] (by decide +kernel) (Nat.le_refl _) (Nat.le_refl _) (fun K R hK hR => ?_)
            simp only [↓rx_goto, ↓rx_nil, j46x, rz_set, rz_nol, rz_clr, List.set_cons_zero, List.set_cons_succ, rz_tr, Nat.reduceAdd, Int.reduceAdd, Int.reduceToNat, Int.reduceSub, Int.reduceNeg, Int.cast_ofNat_Int]
            try simp (disch := omega) only [j46x, pk_us, pk_un, va_up_self, va_up_ne, nI_add, pk_mul, nI_clamp, vp_inT, nI_ltI, nI_leI, nI_eqI, pk_sub, true_and, and_true]
            refine hK _ _ _ _ ?_
            have ih := ih (cx + 1) (by omega)
            rw [← cp_s] at ih
            simp only [Nat.zero_add] at ih
            rw [re_vv]
            exact ih
        have := lp (n) 0 (Nat.zero_add _)
        rw [cp_0, re_ve] at this
        exact this
      refine rz_cV (As := [.int (nI (if T1.1.testBit 0 = true then 1 else 0)), .int (nI (if T2.1.testBit 0 = true then 1 else 0)), .int (nI 0), .int (nI 1)]) (b := a) (S := []) l_Mod_337 (by decide +kernel) rfl re_at0 rfl (Nat.le_of_ble_eq_true rfl) (Nat.le_refl _) (Nat.le_refl _) (hra) (fun r G' hr => ?_)
      obtain ⟨I3, A3, rb, u1, rfl, rfl, i3, a3, x1, W, kk, y1, y2, y3, y4⟩ := hr
      have hl1 := xw_len y2 kk kk u1 (Nat.le_refl _) y4
      have hkl1 := (List.getElem?_eq_some_iff.mp y4).1
      have t1' := re_t_fa t1 a3 rfl
      have t2' := re_t_fa t2 a3 rfl
      have e46 : I3 46 = nI n46 := by rw [i3 46 rfl, j46]; exact hI46
      simp only [Option.toList, List.cons_append, List.nil_append]
      refine rz_blk' [(.istore_n 3, 1, 0, 0)] (by decide +kernel) (Nat.le_refl _) (Nat.le_refl _) (fun K R hK hR => ?_)
      simp only [↓rx_istore_n3, ↓rx_nil, ↓ry_i1, e46, rz_set, rz_nol, rz_clr, List.set_cons_zero, List.set_cons_succ, rz_tr, Nat.reduceAdd, Int.reduceAdd, Int.reduceToNat, Int.reduceSub, Int.reduceNeg, Int.cast_ofNat_Int]
      try simp (disch := omega) only [e46, rb_0, pk_us, pk_un, va_up_self, va_up_ne, nI_add, pk_mul, nI_clamp, vp_inT, nI_ltI, nI_leI, nI_eqI, pk_sub, true_and, and_true]
      refine hK _ _ _ _ ?_
      refine rz_blk' [(.iload_n 3, 1, 0, 0), (.ifCond .eq 11, 3, 0, 0)] (by decide +kernel) (Nat.le_refl _) (Nat.le_refl _) (fun K R hK hR => ?_)
      simp only [↓rx_ifCond_eq, ↓rx_iload_n3, ↓rx_nil, ↓ry_i1, ↓ry_li0s, ↓ry_li0z, e46, rz_set, rz_nol, rz_clr, List.set_cons_zero, List.set_cons_succ, rz_tr, Nat.reduceAdd, Int.reduceAdd, Int.reduceToNat, Int.reduceSub, Int.reduceNeg, Int.cast_ofNat_Int]
      try simp (disch := omega) only [e46, rb_0, pk_us, pk_un, va_up_self, va_up_ne, nI_add, pk_mul, nI_clamp, vp_inT, nI_ltI, nI_leI, nI_eqI, pk_sub, true_and, and_true]
      refine ⟨fun q20 => hK _ _ _ _ ?_, fun q20 => hK _ _ _ _ ?_⟩
      · -- 97 taken
        refine rz_blk' [(.aload_n 0, 1, 0, 0), (.aload_n 0, 1, 0, 0), (.getfield 309, 3, 10, 46), (.putfield 334, 3, 10, 47)] (by decide +kernel) (Nat.le_refl _) (Nat.le_refl _) (fun K R hK hR => ?_)
        simp only [List.length_cons, List.length_nil, Nat.reduceLT, rf_10_47, ↓rx_aload_n0, ↓rx_getfield, ↓rx_nil, ↓rx_putfield, ↓ry_lr0s, ↓ry_lr0z, ↓ry_obu, ↓ry_r1, ↓ry_vr, true_and, re_len, re_u47, ↓re_F46, ↓re_ob, e46, rz_set, rz_nol, rz_clr, List.set_cons_zero, List.set_cons_succ, rz_tr, Nat.reduceAdd, Int.reduceAdd, Int.reduceToNat, Int.reduceSub, Int.reduceNeg, Int.cast_ofNat_Int]
        try simp (disch := omega) only [e46, rb_0, pk_us, pk_un, va_up_self, va_up_ne, nI_add, pk_mul, nI_clamp, vp_inT, nI_ltI, nI_leI, nI_eqI, pk_sub, true_and, and_true]
        refine hK _ _ _ _ ?_
        refine rz_blk' [(.iconst 0, 1, 0, 0), (.istore 4, 2, 0, 0)] (by decide +kernel) (Nat.le_refl _) (Nat.le_refl _) (fun K R hK hR => ?_)
        simp only [rw_c0, ↓rx_iconst, ↓rx_istore, ↓rx_nil, ↓ry_i1, e46, rz_set, rz_nol, rz_clr, List.set_cons_zero, List.set_cons_succ, rz_tr, Nat.reduceAdd, Int.reduceAdd, Int.reduceToNat, Int.reduceSub, Int.reduceNeg, Int.cast_ofNat_Int]
        try simp (disch := omega) only [e46, rb_0, pk_us, pk_un, va_up_self, va_up_ne, nI_add, pk_mul, nI_clamp, vp_inT, nI_ltI, nI_leI, nI_eqI, pk_sub, true_and, and_true]
        refine hK _ _ _ _ ?_
        refine c1 _ n46 _ _ (by omega) (by rw [pk_un (by decide)]; exact e46) ?_
        refine hC rb u1 _ _ _ ((i1.t i3 rfl).u rfl) ((a2.t a3 rfl).u rfl) ?_ ?_ x1 hl1.2 (by omega) (fun q => ?_)
        · exact re_t_fa (K := [49]) t1' (fa.rf.u rfl) rfl
        · exact re_t_fa (K := [49]) t2' (fa.rf.u rfl) rfl
        · rw [(by assumption : rb = false)] at q; cases q
      · -- 97 not taken
        have hrbt : rb = true := by simpa using q20
        have y1 := y1 hrbt
        have hsp := c_Mod_spell (w := w) (d := d + 5) (G := G) (a := a) (I := I3) (A := A3) y2 y4
        refine rz_blk' [(.aload_n 0, 1, 0, 0), (.aload_n 0, 1, 0, 0), (.getfield 293, 3, 10, 41)] (by decide +kernel) (Nat.le_refl _) (Nat.le_refl _) (fun K R hK hR => ?_)
        simp only [↓rx_aload_n0, ↓rx_getfield, ↓rx_nil, ↓ry_lr0s, ↓ry_lr0z, ↓ry_obu, ↓ry_r1, ↓re_F41, ↓re_ob, e46, y1, rz_set, rz_nol, rz_clr, List.set_cons_zero, List.set_cons_succ, rz_tr, Nat.reduceAdd, Int.reduceAdd, Int.reduceToNat, Int.reduceSub, Int.reduceNeg, Int.cast_ofNat_Int]
        try simp (disch := omega) only [e46, y1, rb_0, pk_us, pk_un, va_up_self, va_up_ne, nI_add, pk_mul, nI_clamp, vp_inT, nI_ltI, nI_leI, nI_eqI, pk_sub, true_and, and_true]
        refine hK _ _ _ _ ?_
        refine rz_cV (As := [.int (nI kk)]) (b := a) (S := []) l_Mod_318 (by decide +kernel) rfl re_at0 rfl (Nat.le_of_ble_eq_true rfl) (Nat.le_refl _) (Nat.le_refl _) (hsp) (fun r G' hr => ?_)
        obtain ⟨rfl, I4, A4, rfl, i4, a4, y6, y7⟩ := hr
        simp only [Option.toList, List.nil_append]
        refine rz_blk' [(.aload_n 0, 1, 0, 0), (.aload_n 0, 1, 0, 0), (.getfield 309, 3, 10, 46), (.putfield 334, 3, 10, 47)] (by decide +kernel) (Nat.le_refl _) (Nat.le_refl _) (fun K R hK hR => ?_)
        simp only [List.length_cons, List.length_nil, Nat.reduceLT, rf_10_47, ↓rx_aload_n0, ↓rx_getfield, ↓rx_nil, ↓rx_putfield, ↓ry_lr0s, ↓ry_lr0z, ↓ry_obu, ↓ry_r1, ↓ry_vr, true_and, re_len, re_u47, ↓re_F46, ↓re_ob, y6, rz_set, rz_nol, rz_clr, List.set_cons_zero, List.set_cons_succ, rz_tr, Nat.reduceAdd, Int.reduceAdd, Int.reduceToNat, Int.reduceSub, Int.reduceNeg, Int.cast_ofNat_Int]
        try simp (disch := omega) only [y6, rb_0, pk_us, pk_un, va_up_self, va_up_ne, nI_add, pk_mul, nI_clamp, vp_inT, nI_ltI, nI_leI, nI_eqI, pk_sub, true_and, and_true]
        refine hK _ _ _ _ ?_
        refine rz_blk' [(.iconst 0, 1, 0, 0), (.istore 4, 2, 0, 0)] (by decide +kernel) (Nat.le_refl _) (Nat.le_refl _) (fun K R hK hR => ?_)
        simp only [rw_c0, ↓rx_iconst, ↓rx_istore, ↓rx_nil, ↓ry_i1, y6, rz_set, rz_nol, rz_clr, List.set_cons_zero, List.set_cons_succ, rz_tr, Nat.reduceAdd, Int.reduceAdd, Int.reduceToNat, Int.reduceSub, Int.reduceNeg, Int.cast_ofNat_Int]
        try simp (disch := omega) only [y6, rb_0, pk_us, pk_un, va_up_self, va_up_ne, nI_add, pk_mul, nI_clamp, vp_inT, nI_ltI, nI_leI, nI_eqI, pk_sub, true_and, and_true]
        refine hK _ _ _ _ ?_
        refine c1 _ u1.length _ _ (by omega) (by rw [pk_un (by decide)]; exact y6) ?_
        refine hC rb u1 _ _ _ (((i1.t i3 rfl).t i4 rfl).u rfl) (((a2.t a3 rfl).t a4 rfl).u rfl) ?_ ?_ x1 hl1.2 (by omega) (fun _ => ⟨pk_us, ?_⟩)
        · exact re_t_fa (K := [48, 49]) t1' ((a4.m rfl).u rfl) rfl
        · exact re_t_fa (K := [48, 49]) t2' ((a4.m rfl).u rfl) rfl
        · rw [va_up_self]; exact sg_cp y7 (Nat.le_refl _)
    refine rz_blk' [(.aload_n 0, 1, 0, 0), (.iload_n 1, 1, 0, 0), (.iconst 0, 1, 0, 0)] (by decide +kernel) (Nat.le_refl _) (Nat.le_refl _) (fun K R hK hR => ?_)
    simp only [rw_c0, ↓rx_aload_n0, ↓rx_iconst, ↓rx_iload_n1, ↓rx_nil, ↓ry_li0s, ↓ry_li0z, ↓ry_lr0s, ↓ry_lr0z, rz_set, rz_nol, rz_clr, List.set_cons_zero, List.set_cons_succ, rz_tr, Nat.reduceAdd, Int.reduceAdd, Int.reduceToNat, Int.reduceSub, Int.reduceNeg, Int.cast_ofNat_Int]
    try simp (disch := omega) only [rb_0, pk_us, pk_un, va_up_self, va_up_ne, nI_add, pk_mul, nI_clamp, vp_inT, nI_ltI, nI_leI, nI_eqI, pk_sub, true_and, and_true]
    refine hK _ _ _ _ ?_
    refine rz_cV (As := [.int (nI k1), .int (nI 0)]) (b := a) (S := []) l_Mod_235 (by decide +kernel) rfl re_at0 rfl (Nat.le_of_ble_eq_true rfl) (Nat.le_refl _) (Nat.le_refl _) (htk1) (fun r G' hr => ?_)
    obtain ⟨rfl, A2, rfl, hft, hre1⟩ := hr
    simp only [Option.toList, List.nil_append]
    have a2 : fa [14, 15, 16, 17, 18, 19, 20, 21, 22, 23, 24, 25, 26, 27, 28, 29, 30, 31, 32, 33, 34, 35, 36, 37, 38, 39, 40, 41, 42, 43, 44, 45, 46, 47, 48, 49] A A2 := a1.t (ft_fa hft) rfl
    have htk2 := c_Mod_take (w := w) (d := d + 3) (G := G) (a := a) (I := I1) (A := A2) (k := k2) (hh := 1) hk2 (by decide) (re_m_keep hm2 (fun f x ho => by rw [a2 f (by unfold re_own at ho; simp; omega)]))
    rw [hT2] at htk2
    refine rz_blk' [(.aload_n 0, 1, 0, 0), (.iload_n 2, 1, 0, 0), (.iconst 1, 1, 0, 0)] (by decide +kernel) (Nat.le_refl _) (Nat.le_refl _) (fun K R hK hR => ?_)
    simp only [rw_c1, ↓rx_aload_n0, ↓rx_iconst, ↓rx_iload_n2, ↓rx_nil, ↓ry_li0s, ↓ry_li0z, ↓ry_lr0s, ↓ry_lr0z, rz_set, rz_nol, rz_clr, List.set_cons_zero, List.set_cons_succ, rz_tr, Nat.reduceAdd, Int.reduceAdd, Int.reduceToNat, Int.reduceSub, Int.reduceNeg, Int.cast_ofNat_Int]
    try simp (disch := omega) only [rb_0, pk_us, pk_un, va_up_self, va_up_ne, nI_add, pk_mul, nI_clamp, vp_inT, nI_ltI, nI_leI, nI_eqI, pk_sub, true_and, and_true]
    refine hK _ _ _ _ ?_
    refine rz_cV (As := [.int (nI k2), .int (nI 1)]) (b := a) (S := []) l_Mod_235 (by decide +kernel) rfl re_at0 rfl (Nat.le_of_ble_eq_true rfl) (Nat.le_refl _) (Nat.le_refl _) (htk2) (fun r G' hr => ?_)
    obtain ⟨rfl, A3, rfl, hft2, hre2⟩ := hr
    simp only [Option.toList, List.nil_append]
    have a3 : fa [14, 15, 16, 17, 18, 19, 20, 21, 22, 23, 24, 25, 26, 27, 28, 29, 30, 31, 32, 33, 34, 35, 36, 37, 38, 39, 40, 41, 42, 43, 44, 45, 46, 47, 48, 49] A A3 := a2.t (ft_fa hft2) rfl
    have hre1' : re_t A3 0 T1 := re_t_keep hre1 htw1' (fun f z ho => hft2 f z (by unfold th_own at *; omega))
    have ux1 := hre1'.1 0 (by decide)
    have ux2 := hre2.1 0 (by decide)
    rw [Nat.mul_zero, Nat.add_zero] at ux1
    rw [Nat.mul_one, Nat.add_zero] at ux2
    refine rz_blk' [(.aload_n 0, 1, 0, 0), (.aload_n 0, 1, 0, 0), (.getfield 46, 3, 10, 14), (.iconst 0, 1, 0, 0), (.baload, 1, 0, 0), (.ifCond .eq 7, 3, 0, 0)] (by decide +kernel) (Nat.le_refl _) (Nat.le_refl _) (fun K R hK hR => ?_)
    simp only [Nat.reduceEqDiff, false_or, or_false, or_true, reduceIte, rw_c0, ↓rx_aload_n0, ↓rx_baload, ↓rx_getfield, ↓rx_iconst, ↓rx_ifCond_eq, ↓rx_nil, ↓ry_i1, ↓ry_iau, ↓ry_lr0s, ↓ry_lr0z, ↓ry_obu, ↓ry_r1, ↓ry_ri, true_and, true_or, re_a14, ↓re_F14, ↓re_i14, ↓re_ob, ux1, ux2, rz_set, rz_nol, rz_clr, List.set_cons_zero, List.set_cons_succ, rz_tr, Nat.reduceAdd, Int.reduceAdd, Int.reduceToNat, Int.reduceSub, Int.reduceNeg, Int.cast_ofNat_Int]
    try simp (disch := omega) only [ux1, ux2, rb_0, pk_us, pk_un, va_up_self, va_up_ne, nI_add, pk_mul, nI_clamp, vp_inT, nI_ltI, nI_leI, nI_eqI, pk_sub, true_and, and_true]
    refine ⟨fun q21 => hK _ _ _ _ ?_, fun q21 => hK _ _ _ _ ?_⟩
    · -- 67 taken
      refine rz_blk' [(.iconst 0, 1, 0, 0), (.aload_n 0, 1, 0, 0), (.getfield 46, 3, 10, 14), (.bipush 6, 2, 0, 0), (.baload, 1, 0, 0), (.ifCond .eq 7, 3, 0, 0)] (by decide +kernel) (Nat.le_refl _) (Nat.le_refl _) (fun K R hK hR => ?_)
      simp only [Nat.reduceEqDiff, false_or, or_false, or_true, reduceIte, rw_b6, rw_c0, ↓rx_aload_n0, ↓rx_baload, ↓rx_bipush, ↓rx_getfield, ↓rx_iconst, ↓rx_ifCond_eq, ↓rx_nil, ↓ry_i1, ↓ry_iau, ↓ry_lr0s, ↓ry_lr0z, ↓ry_obu, ↓ry_r1, ↓ry_ri, true_and, true_or, re_a14, ↓re_F14, ↓re_i14, ↓re_ob, ux1, ux2, rz_set, rz_nol, rz_clr, List.set_cons_zero, List.set_cons_succ, rz_tr, Nat.reduceAdd, Int.reduceAdd, Int.reduceToNat, Int.reduceSub, Int.reduceNeg, Int.cast_ofNat_Int]
      try simp (disch := omega) only [ux1, ux2, rb_0, pk_us, pk_un, va_up_self, va_up_ne, nI_add, pk_mul, nI_clamp, vp_inT, nI_ltI, nI_leI, nI_eqI, pk_sub, true_and, and_true]
      refine ⟨fun q22 => hK _ _ _ _ ?_, fun q22 => hK _ _ _ _ ?_⟩
      · -- 82 taken
        refine rz_blk' [(.iconst 0, 1, 0, 0), (.iconst 0, 1, 0, 0), (.iconst 1, 1, 0, 0)] (by decide +kernel) (Nat.le_refl _) (Nat.le_refl _) (fun K R hK hR => ?_)
        simp only [rw_c0, rw_c1, ↓rx_iconst, ↓rx_nil, ux1, ux2, rz_set, rz_nol, rz_clr, List.set_cons_zero, List.set_cons_succ, rz_tr, Nat.reduceAdd, Int.reduceAdd, Int.reduceToNat, Int.reduceSub, Int.reduceNeg, Int.cast_ofNat_Int]
        try simp (disch := omega) only [ux1, ux2, rb_0, pk_us, pk_un, va_up_self, va_up_ne, nI_add, pk_mul, nI_clamp, vp_inT, nI_ltI, nI_leI, nI_eqI, pk_sub, true_and, and_true]
        refine hK _ _ _ _ ?_
        have hz := hrd A3 a3 hre1' hre2
        first
          | (rw [if_pos (show T1.1.testBit 0 = true by simpa using q21), if_pos (show T2.1.testBit 0 = true by simpa using q22)] at hz; exact hz)
          | (rw [if_pos (show T1.1.testBit 0 = true by simpa using q21), if_neg (show ¬ T2.1.testBit 0 = true by simpa using q22)] at hz; exact hz)
          | (rw [if_neg (show ¬ T1.1.testBit 0 = true by simpa using q21), if_pos (show T2.1.testBit 0 = true by simpa using q22)] at hz; exact hz)
          | (rw [if_neg (show ¬ T1.1.testBit 0 = true by simpa using q21), if_neg (show ¬ T2.1.testBit 0 = true by simpa using q22)] at hz; exact hz)
      · -- 82 not taken
        refine rz_blk' [(.iconst 1, 1, 0, 0), (.goto 4, 3, 0, 0)] (by decide +kernel) (Nat.le_refl _) (Nat.le_refl _) (fun K R hK hR => ?_)
        simp only [rw_c1, ↓rx_goto, ↓rx_iconst, ↓rx_nil, ux1, ux2, rz_set, rz_nol, rz_clr, List.set_cons_zero, List.set_cons_succ, rz_tr, Nat.reduceAdd, Int.reduceAdd, Int.reduceToNat, Int.reduceSub, Int.reduceNeg, Int.cast_ofNat_Int]
        try simp (disch := omega) only [ux1, ux2, rb_0, pk_us, pk_un, va_up_self, va_up_ne, nI_add, pk_mul, nI_clamp, vp_inT, nI_ltI, nI_leI, nI_eqI, pk_sub, true_and, and_true]
        refine hK _ _ _ _ ?_
        refine rz_blk' [(.iconst 0, 1, 0, 0), (.iconst 1, 1, 0, 0)] (by decide +kernel) (Nat.le_refl _) (Nat.le_refl _) (fun K R hK hR => ?_)
        simp only [rw_c0, rw_c1, ↓rx_iconst, ↓rx_nil, ux1, ux2, rz_set, rz_nol, rz_clr, List.set_cons_zero, List.set_cons_succ, rz_tr, Nat.reduceAdd, Int.reduceAdd, Int.reduceToNat, Int.reduceSub, Int.reduceNeg, Int.cast_ofNat_Int]
        try simp (disch := omega) only [ux1, ux2, rb_0, pk_us, pk_un, va_up_self, va_up_ne, nI_add, pk_mul, nI_clamp, vp_inT, nI_ltI, nI_leI, nI_eqI, pk_sub, true_and, and_true]
        refine hK _ _ _ _ ?_
        have hz := hrd A3 a3 hre1' hre2
        first
          | (rw [if_pos (show T1.1.testBit 0 = true by simpa using q21), if_pos (show T2.1.testBit 0 = true by simpa using q22)] at hz; exact hz)
          | (rw [if_pos (show T1.1.testBit 0 = true by simpa using q21), if_neg (show ¬ T2.1.testBit 0 = true by simpa using q22)] at hz; exact hz)
          | (rw [if_neg (show ¬ T1.1.testBit 0 = true by simpa using q21), if_pos (show T2.1.testBit 0 = true by simpa using q22)] at hz; exact hz)
          | (rw [if_neg (show ¬ T1.1.testBit 0 = true by simpa using q21), if_neg (show ¬ T2.1.testBit 0 = true by simpa using q22)] at hz; exact hz)
    · -- 67 not taken
      refine rz_blk' [(.iconst 1, 1, 0, 0), (.goto 4, 3, 0, 0)] (by decide +kernel) (Nat.le_refl _) (Nat.le_refl _) (fun K R hK hR => ?_)
      simp only [rw_c1, ↓rx_goto, ↓rx_iconst, ↓rx_nil, ux1, ux2, rz_set, rz_nol, rz_clr, List.set_cons_zero, List.set_cons_succ, rz_tr, Nat.reduceAdd, Int.reduceAdd, Int.reduceToNat, Int.reduceSub, Int.reduceNeg, Int.cast_ofNat_Int]
      try simp (disch := omega) only [ux1, ux2, rb_0, pk_us, pk_un, va_up_self, va_up_ne, nI_add, pk_mul, nI_clamp, vp_inT, nI_ltI, nI_leI, nI_eqI, pk_sub, true_and, and_true]
      refine hK _ _ _ _ ?_
      refine rz_blk' [(.aload_n 0, 1, 0, 0), (.getfield 46, 3, 10, 14), (.bipush 6, 2, 0, 0), (.baload, 1, 0, 0), (.ifCond .eq 7, 3, 0, 0)] (by decide +kernel) (Nat.le_refl _) (Nat.le_refl _) (fun K R hK hR => ?_)
      simp only [Nat.reduceEqDiff, false_or, or_false, or_true, reduceIte, rw_b6, ↓rx_aload_n0, ↓rx_baload, ↓rx_bipush, ↓rx_getfield, ↓rx_ifCond_eq, ↓rx_nil, ↓ry_i1, ↓ry_iau, ↓ry_lr0s, ↓ry_lr0z, ↓ry_obu, ↓ry_r1, ↓ry_ri, true_and, true_or, re_a14, ↓re_F14, ↓re_i14, ↓re_ob, ux1, ux2, rz_set, rz_nol, rz_clr, List.set_cons_zero, List.set_cons_succ, rz_tr, Nat.reduceAdd, Int.reduceAdd, Int.reduceToNat, Int.reduceSub, Int.reduceNeg, Int.cast_ofNat_Int]
      try simp (disch := omega) only [ux1, ux2, rb_0, pk_us, pk_un, va_up_self, va_up_ne, nI_add, pk_mul, nI_clamp, vp_inT, nI_ltI, nI_leI, nI_eqI, pk_sub, true_and, and_true]
      refine ⟨fun q23 => hK _ _ _ _ ?_, fun q23 => hK _ _ _ _ ?_⟩
      · -- 82 taken
        refine rz_blk' [(.iconst 0, 1, 0, 0), (.iconst 0, 1, 0, 0), (.iconst 1, 1, 0, 0)] (by decide +kernel) (Nat.le_refl _) (Nat.le_refl _) (fun K R hK hR => ?_)
        simp only [rw_c0, rw_c1, ↓rx_iconst, ↓rx_nil, ux1, ux2, rz_set, rz_nol, rz_clr, List.set_cons_zero, List.set_cons_succ, rz_tr, Nat.reduceAdd, Int.reduceAdd, Int.reduceToNat, Int.reduceSub, Int.reduceNeg, Int.cast_ofNat_Int]
        try simp (disch := omega) only [ux1, ux2, rb_0, pk_us, pk_un, va_up_self, va_up_ne, nI_add, pk_mul, nI_clamp, vp_inT, nI_ltI, nI_leI, nI_eqI, pk_sub, true_and, and_true]
        refine hK _ _ _ _ ?_
        have hz := hrd A3 a3 hre1' hre2
        first
          | (rw [if_pos (show T1.1.testBit 0 = true by simpa using q21), if_pos (show T2.1.testBit 0 = true by simpa using q23)] at hz; exact hz)
          | (rw [if_pos (show T1.1.testBit 0 = true by simpa using q21), if_neg (show ¬ T2.1.testBit 0 = true by simpa using q23)] at hz; exact hz)
          | (rw [if_neg (show ¬ T1.1.testBit 0 = true by simpa using q21), if_pos (show T2.1.testBit 0 = true by simpa using q23)] at hz; exact hz)
          | (rw [if_neg (show ¬ T1.1.testBit 0 = true by simpa using q21), if_neg (show ¬ T2.1.testBit 0 = true by simpa using q23)] at hz; exact hz)
      · -- 82 not taken
        refine rz_blk' [(.iconst 1, 1, 0, 0), (.goto 4, 3, 0, 0)] (by decide +kernel) (Nat.le_refl _) (Nat.le_refl _) (fun K R hK hR => ?_)
        simp only [rw_c1, ↓rx_goto, ↓rx_iconst, ↓rx_nil, ux1, ux2, rz_set, rz_nol, rz_clr, List.set_cons_zero, List.set_cons_succ, rz_tr, Nat.reduceAdd, Int.reduceAdd, Int.reduceToNat, Int.reduceSub, Int.reduceNeg, Int.cast_ofNat_Int]
        try simp (disch := omega) only [ux1, ux2, rb_0, pk_us, pk_un, va_up_self, va_up_ne, nI_add, pk_mul, nI_clamp, vp_inT, nI_ltI, nI_leI, nI_eqI, pk_sub, true_and, and_true]
        refine hK _ _ _ _ ?_
        refine rz_blk' [(.iconst 0, 1, 0, 0), (.iconst 1, 1, 0, 0)] (by decide +kernel) (Nat.le_refl _) (Nat.le_refl _) (fun K R hK hR => ?_)
        simp only [rw_c0, rw_c1, ↓rx_iconst, ↓rx_nil, ux1, ux2, rz_set, rz_nol, rz_clr, List.set_cons_zero, List.set_cons_succ, rz_tr, Nat.reduceAdd, Int.reduceAdd, Int.reduceToNat, Int.reduceSub, Int.reduceNeg, Int.cast_ofNat_Int]
        try simp (disch := omega) only [ux1, ux2, rb_0, pk_us, pk_un, va_up_self, va_up_ne, nI_add, pk_mul, nI_clamp, vp_inT, nI_ltI, nI_leI, nI_eqI, pk_sub, true_and, and_true]
        refine hK _ _ _ _ ?_
        have hz := hrd A3 a3 hre1' hre2
        first
          | (rw [if_pos (show T1.1.testBit 0 = true by simpa using q21), if_pos (show T2.1.testBit 0 = true by simpa using q23)] at hz; exact hz)
          | (rw [if_pos (show T1.1.testBit 0 = true by simpa using q21), if_neg (show ¬ T2.1.testBit 0 = true by simpa using q23)] at hz; exact hz)
          | (rw [if_neg (show ¬ T1.1.testBit 0 = true by simpa using q21), if_pos (show T2.1.testBit 0 = true by simpa using q23)] at hz; exact hz)
          | (rw [if_neg (show ¬ T1.1.testBit 0 = true by simpa using q21), if_neg (show ¬ T2.1.testBit 0 = true by simpa using q23)] at hz; exact hz)
  refine rz_blk' [(.ifCond .ne 5, 3, 0, 0)] (by decide +kernel) (Nat.le_refl _) (Nat.le_refl _) (fun K R hK hR => ?_)
  simp only [↓rx_ifCond_ne, ↓rx_nil, ↓ry_i1, rz_set, rz_nol, rz_clr, List.set_cons_zero, List.set_cons_succ, rz_tr, Nat.reduceAdd, Int.reduceAdd, Int.reduceToNat, Int.reduceSub, Int.reduceNeg, Int.cast_ofNat_Int]
  try simp (disch := omega) only [rb_0, Bool.not_eq_true, Bool.not_eq_false, pk_us, pk_un, va_up_self, va_up_ne, nI_add, pk_mul, nI_clamp, vp_inT, nI_ltI, nI_leI, nI_eqI, pk_sub, true_and, and_true]
  refine ⟨fun q24 => hK _ _ _ _ ?_, fun q24 => absurd q24 (by decide)⟩
  refine rz_blk' [(.aload_n 0, 1, 0, 0), (.iload_n 1, 1, 0, 0)] (by decide +kernel) (Nat.le_refl _) (Nat.le_refl _) (fun K R hK hR => ?_)
  simp only [↓rx_aload_n0, ↓rx_iload_n1, ↓rx_nil, ↓ry_li0s, ↓ry_li0z, ↓ry_lr0s, ↓ry_lr0z, rz_set, rz_nol, rz_clr, List.set_cons_zero, List.set_cons_succ, rz_tr, Nat.reduceAdd, Int.reduceAdd, Int.reduceToNat, Int.reduceSub, Int.reduceNeg, Int.cast_ofNat_Int]
  try simp (disch := omega) only [rb_0, Bool.not_eq_true, Bool.not_eq_false, pk_us, pk_un, va_up_self, va_up_ne, nI_add, pk_mul, nI_clamp, vp_inT, nI_ltI, nI_leI, nI_eqI, pk_sub, true_and, and_true]
  refine hK _ _ _ _ ?_
  refine rz_cV (As := [.int (nI k1)]) (b := a) (S := []) l_Mod_315 (by decide +kernel) rfl re_at0 rfl (Nat.le_of_ble_eq_true rfl) (Nat.le_refl _) (Nat.le_refl _) (hfo1) (fun r G' hr => ?_)
  obtain ⟨I2, A2, b1, v1, rfl, rfl, hkp1, i2, -, a2, W1, kk1, -, -, -, -, z1⟩ := hr
  simp only [Option.toList, List.cons_append, List.nil_append]
  have hm2' : re_m A2 k2 (V.1 k2) := re_m_keep hm2 (fun f x ho => by rw [a2 f (by unfold re_own at ho; simp; omega)])
  have hfo2 := c_Mod_functionOf (w := w) (d := d) (G := G) (a := a) (I := I2) (A := A2) hk2 hm2'
  refine rz_blk' [(.ifCond .eq 11, 3, 0, 0)] (by decide +kernel) (Nat.le_refl _) (Nat.le_refl _) (fun K R hK hR => ?_)
  simp only [↓rx_ifCond_eq, ↓rx_nil, ↓ry_i1, rz_set, rz_nol, rz_clr, List.set_cons_zero, List.set_cons_succ, rz_tr, Nat.reduceAdd, Int.reduceAdd, Int.reduceToNat, Int.reduceSub, Int.reduceNeg, Int.cast_ofNat_Int]
  try simp (disch := omega) only [rb_0, Bool.not_eq_true, Bool.not_eq_false, pk_us, pk_un, va_up_self, va_up_ne, nI_add, pk_mul, nI_clamp, vp_inT, nI_ltI, nI_leI, nI_eqI, pk_sub, true_and, and_true]
  refine ⟨fun q25 => hK _ _ _ _ ?_, fun q25 => hK _ _ _ _ ?_⟩
  · -- 23 taken
    refine rz_blk' [(.aload_n 0, 1, 0, 0), (.iconst 2, 1, 0, 0)] (by decide +kernel) (Nat.le_refl _) (Nat.le_refl _) (fun K R hK hR => ?_)
    simp only [rw_c2, ↓rx_aload_n0, ↓rx_iconst, ↓rx_nil, ↓ry_lr0s, ↓ry_lr0z, rz_set, rz_nol, rz_clr, List.set_cons_zero, List.set_cons_succ, rz_tr, Nat.reduceAdd, Int.reduceAdd, Int.reduceToNat, Int.reduceSub, Int.reduceNeg, Int.cast_ofNat_Int]
    try simp (disch := omega) only [rb_0, Bool.not_eq_true, Bool.not_eq_false, pk_us, pk_un, va_up_self, va_up_ne, nI_add, pk_mul, nI_clamp, vp_inT, nI_ltI, nI_leI, nI_eqI, pk_sub, true_and, and_true]
    refine hK _ _ _ _ ?_
    refine rz_cV (As := [.int (nI 2)]) (b := a) (S := []) l_Mod_218 (by decide +kernel) rfl re_at0 rfl (Nat.le_of_ble_eq_true rfl) (Nat.le_refl _) (Nat.le_refl _) (c_Mod_fail _) (fun r G' hr => ?_)
    obtain ⟨rfl, rfl⟩ := hr
    simp only [Option.toList, List.cons_append, List.nil_append]
    refine rz_blk' [(.ifCond .le 7, 3, 0, 0)] (by decide +kernel) (Nat.le_refl _) (Nat.le_refl _) (fun K R hK hR => ?_)
    simp only [↓rx_ifCond_le, ↓rx_nil, ↓ry_i1, rz_set, rz_nol, rz_clr, List.set_cons_zero, List.set_cons_succ, rz_tr, Nat.reduceAdd, Int.reduceAdd, Int.reduceToNat, Int.reduceSub, Int.reduceNeg, Int.cast_ofNat_Int]
    try simp (disch := omega) only [rb_0, Bool.not_eq_true, Bool.not_eq_false, pk_us, pk_un, va_up_self, va_up_ne, nI_add, pk_mul, nI_clamp, vp_inT, nI_ltI, nI_leI, nI_eqI, pk_sub, true_and, and_true]
    refine ⟨fun q26 => hK _ _ _ _ ?_, fun q26 => absurd q26 (by decide)⟩
    refine rz_blk' [(.iconst 0, 1, 0, 0), (.ireturn, 1, 0, 0)] (by decide +kernel) (Nat.le_refl _) (Nat.le_refl _) (fun K R hK hR => ?_)
    simp only [rw_c0, ↓rx_iconst, ↓rx_ireturn, ↓rx_nil, rz_set, rz_nol, rz_clr, List.set_cons_zero, List.set_cons_succ, rz_tr, Nat.reduceAdd, Int.reduceAdd, Int.reduceToNat, Int.reduceSub, Int.reduceNeg, Int.cast_ofNat_Int]
    try simp (disch := omega) only [rb_0, Bool.not_eq_true, Bool.not_eq_false, pk_us, pk_un, va_up_self, va_up_ne, nI_add, pk_mul, nI_clamp, vp_inT, nI_ltI, nI_leI, nI_eqI, pk_sub, true_and, and_true]
    first
      | (have e2 : b2 = true := (by simpa using q25)
         subst e2
         refine hR _ _ rz_nb_0 (hfail I3 A3 (i2.t' i3 rfl rfl) (a2.t' a3 rfl rfl) (by rw [i3 46 rfl, i2 46 rfl]) (Or.inr ⟨v2, ?_⟩))
         rcases z2 with ⟨q, -⟩ | ⟨-, q, -⟩
         · cases q
         · exact q)
      | (have e1 : b1 = true := (by simpa using q25)
         subst e1
         refine hR _ _ rz_nb_0 (hfail I2 A2 (i2.m rfl) (a2.m rfl) (i2 46 rfl) (Or.inl ⟨v1, ?_⟩))
         rcases z1 with ⟨q, -⟩ | ⟨-, q, -⟩
         · cases q
         · exact q)
  · -- 23 not taken
    refine rz_blk' [(.aload_n 0, 1, 0, 0), (.iload_n 2, 1, 0, 0)] (by decide +kernel) (Nat.le_refl _) (Nat.le_refl _) (fun K R hK hR => ?_)
    simp only [↓rx_aload_n0, ↓rx_iload_n2, ↓rx_nil, ↓ry_li0s, ↓ry_li0z, ↓ry_lr0s, ↓ry_lr0z, rz_set, rz_nol, rz_clr, List.set_cons_zero, List.set_cons_succ, rz_tr, Nat.reduceAdd, Int.reduceAdd, Int.reduceToNat, Int.reduceSub, Int.reduceNeg, Int.cast_ofNat_Int]
    try simp (disch := omega) only [rb_0, Bool.not_eq_true, Bool.not_eq_false, pk_us, pk_un, va_up_self, va_up_ne, nI_add, pk_mul, nI_clamp, vp_inT, nI_ltI, nI_leI, nI_eqI, pk_sub, true_and, and_true]
    refine hK _ _ _ _ ?_
    refine rz_cV (As := [.int (nI k2)]) (b := a) (S := []) l_Mod_315 (by decide +kernel) rfl re_at0 rfl (Nat.le_of_ble_eq_true rfl) (Nat.le_refl _) (Nat.le_refl _) (hfo2) (fun r G' hr => ?_)
    obtain ⟨I3, A3, b2, v2, rfl, rfl, hkp2, i3, -, a3, W2, kk2, -, -, -, -, z2⟩ := hr
    simp only [Option.toList, List.cons_append, List.nil_append]
    refine rz_blk' [(.ifCond .ne 17, 3, 0, 0)] (by decide +kernel) (Nat.le_refl _) (Nat.le_refl _) (fun K R hK hR => ?_)
    simp only [↓rx_ifCond_ne, ↓rx_nil, ↓ry_i1, rz_set, rz_nol, rz_clr, List.set_cons_zero, List.set_cons_succ, rz_tr, Nat.reduceAdd, Int.reduceAdd, Int.reduceToNat, Int.reduceSub, Int.reduceNeg, Int.cast_ofNat_Int]
    try simp (disch := omega) only [rb_0, Bool.not_eq_true, Bool.not_eq_false, pk_us, pk_un, va_up_self, va_up_ne, nI_add, pk_mul, nI_clamp, vp_inT, nI_ltI, nI_leI, nI_eqI, pk_sub, true_and, and_true]
    refine ⟨fun q27 => hK _ _ _ _ ?_, fun q27 => hK _ _ _ _ ?_⟩
    · -- 31 taken
      have e1 : b1 = false := by simpa using q25
      have e2 : b2 = false := by simpa using q27
      subst e1; subst e2
      refine hgo I3 A3 (i2.t' i3 rfl rfl) (a2.t' a3 rfl rfl) (by rw [i3 46 rfl, i2 46 rfl]) ?_ ?_
      · rcases z1 with ⟨-, q⟩ | ⟨q, -⟩
        · exact q
        · cases q
      · rcases z2 with ⟨-, q⟩ | ⟨q, -⟩
        · exact q
        · cases q
    · -- 31 not taken
      refine rz_blk' [(.aload_n 0, 1, 0, 0), (.iconst 2, 1, 0, 0)] (by decide +kernel) (Nat.le_refl _) (Nat.le_refl _) (fun K R hK hR => ?_)
      simp only [rw_c2, ↓rx_aload_n0, ↓rx_iconst, ↓rx_nil, ↓ry_lr0s, ↓ry_lr0z, rz_set, rz_nol, rz_clr, List.set_cons_zero, List.set_cons_succ, rz_tr, Nat.reduceAdd, Int.reduceAdd, Int.reduceToNat, Int.reduceSub, Int.reduceNeg, Int.cast_ofNat_Int]
      try simp (disch := omega) only [rb_0, Bool.not_eq_true, Bool.not_eq_false, pk_us, pk_un, va_up_self, va_up_ne, nI_add, pk_mul, nI_clamp, vp_inT, nI_ltI, nI_leI, nI_eqI, pk_sub, true_and, and_true]
      refine hK _ _ _ _ ?_
      refine rz_cV (As := [.int (nI 2)]) (b := a) (S := []) l_Mod_218 (by decide +kernel) rfl re_at0 rfl (Nat.le_of_ble_eq_true rfl) (Nat.le_refl _) (Nat.le_refl _) (c_Mod_fail _) (fun r G' hr => ?_)
      obtain ⟨rfl, rfl⟩ := hr
      simp only [Option.toList, List.cons_append, List.nil_append]
      refine rz_blk' [(.ifCond .le 7, 3, 0, 0)] (by decide +kernel) (Nat.le_refl _) (Nat.le_refl _) (fun K R hK hR => ?_)
      simp only [↓rx_ifCond_le, ↓rx_nil, ↓ry_i1, rz_set, rz_nol, rz_clr, List.set_cons_zero, List.set_cons_succ, rz_tr, Nat.reduceAdd, Int.reduceAdd, Int.reduceToNat, Int.reduceSub, Int.reduceNeg, Int.cast_ofNat_Int]
      try simp (disch := omega) only [rb_0, Bool.not_eq_true, Bool.not_eq_false, pk_us, pk_un, va_up_self, va_up_ne, nI_add, pk_mul, nI_clamp, vp_inT, nI_ltI, nI_leI, nI_eqI, pk_sub, true_and, and_true]
      refine ⟨fun q28 => hK _ _ _ _ ?_, fun q28 => absurd q28 (by decide)⟩
      refine rz_blk' [(.iconst 0, 1, 0, 0), (.ireturn, 1, 0, 0)] (by decide +kernel) (Nat.le_refl _) (Nat.le_refl _) (fun K R hK hR => ?_)
      simp only [rw_c0, ↓rx_iconst, ↓rx_ireturn, ↓rx_nil, rz_set, rz_nol, rz_clr, List.set_cons_zero, List.set_cons_succ, rz_tr, Nat.reduceAdd, Int.reduceAdd, Int.reduceToNat, Int.reduceSub, Int.reduceNeg, Int.cast_ofNat_Int]
      try simp (disch := omega) only [rb_0, Bool.not_eq_true, Bool.not_eq_false, pk_us, pk_un, va_up_self, va_up_ne, nI_add, pk_mul, nI_clamp, vp_inT, nI_ltI, nI_leI, nI_eqI, pk_sub, true_and, and_true]
      first
        | (have e2 : b2 = true := (by simpa using q27)
           subst e2
           refine hR _ _ rz_nb_0 (hfail I3 A3 (i2.t' i3 rfl rfl) (a2.t' a3 rfl rfl) (by rw [i3 46 rfl, i2 46 rfl]) (Or.inr ⟨v2, ?_⟩))
           rcases z2 with ⟨q, -⟩ | ⟨-, q, -⟩
           · cases q
           · exact q)
        | (have e1 : b1 = true := (by simpa using q27)
           subst e1
           refine hR _ _ rz_nb_0 (hfail I2 A2 (i2.m rfl) (a2.m rfl) (i2 46 rfl) (Or.inl ⟨v1, ?_⟩))
           rcases z1 with ⟨q, -⟩ | ⟨-, q, -⟩
           · cases q
           · exact q)
set_option maxRecDepth 100000 in
set_option maxHeartbeats 4000000 in
theorem cr_Mod_next {w : rz_w} {d : Nat} {G : rz_G} {a : Nat} {I : Nat → Int32} {A : Nat → Nat → Int32} {V : dk_V} (h : rf I A V) (x y : Int32) : rz_C w (d + 2) 0 0 y_Mod_next m_Mod_next [.ref a, .int x, .int y] (re_put G a I A) (fun (r : Option Value) (G' : rz_G) => (∃ v, r = some (.int v)) ∧ (rv G a V (fun r V' => ∃ s l, s < V.2.2.1.2.1.length ∧ l < 3 ∧ x = nI s ∧ y = nI l ∧ r = some (.int (bb_t V.2.2.1.2.2[s * 3 + l]?)) ∧ V' = dk_ur V (bb_w V.2.2.1.2.2[s * 3 + l]?)) (fun c => (c = 1 ∧ V.2.2.1.2.1.length = 0) ∨ (c = 2 ∧ V.2.2.1.2.1.length ≠ 0 ∧ ¬ ((∃ s, s < V.2.2.1.2.1.length ∧ x = nI s) ∧ ∃ l, l < 3 ∧ y = nI l)))) r G') := by
  generalize hQ : (fun (r : Option Value) (G' : rz_G) => (∃ v, r = some (.int v)) ∧ (rv G a V (fun r V' => ∃ s l, s < V.2.2.1.2.1.length ∧ l < 3 ∧ x = nI s ∧ y = nI l ∧ r = some (.int (bb_t V.2.2.1.2.2[s * 3 + l]?)) ∧ V' = dk_ur V (bb_w V.2.2.1.2.2[s * 3 + l]?)) (fun c => (c = 1 ∧ V.2.2.1.2.1.length = 0) ∨ (c = 2 ∧ V.2.2.1.2.1.length ≠ 0 ∧ ¬ ((∃ s, s < V.2.2.1.2.1.length ∧ x = nI s) ∧ ∃ l, l < 3 ∧ y = nI l)))) r G') = Q
  obtain ⟨-, g67, g40, g68, g69, -, g70, gE, gC⟩ := id h.2.2
  generalize hn : V.2.2.1.2.1.length = n at *
  have key2 := wi_iff (x := y) (lo := 0) (hi := 2) (by decide) (by decide)
  have hmain : ∀ s l, s < n → l < 3 → x = nI s → y = nI l → rz_T w (d + 2) 0 0 m_Mod_next 0 0 47 [some (.ref a), some (.int x), some (.int y), none, none] [] (re_put G a (upd I 0 (nI 0)) A) Q := by
    rintro s l hs hl rfl rfl
    obtain ⟨e1, e2, e3, e4⟩ := gE (3 * s + l) (by omega)
    rw [show 3 * s + l = s * 3 + l by omega] at e1 e2 e3 e4
    generalize hg : V.2.2.1.2.2[s * 3 + l]? = g at *
    have c1 : ∀ (B : Nat → Nat → Int32) (J : Nat → Int32), J 12 = nI (bb_w g).length → rz_T w (d + 2) 0 0 m_Mod_next 0 0 101 [some (.ref a), some (.int (nI s)), some (.int (nI l)), some (.int (nI (s * 3 + l))), some (.int (nI ((bb_w g).length)))] [] (re_put G a J (va_up B 13 (cp (B 13) (0) (B 73) (160 * (s * 3 + l)) ((bb_w g).length)))) Q → rz_T w (d + 2) 0 0 m_Mod_next 0 0 66 [some (.ref a), some (.int (nI s)), some (.int (nI l)), some (.int (nI (s * 3 + l))), some (.int (nI 0))] [] (re_put G a J B) Q := by
      intro B J j12 hx
      have lp : ∀ (cj cx : Nat), cx + cj = (bb_w g).length → rz_T w (d + 2) 0 0 m_Mod_next 0 0 66 [some (.ref a), some (.int (nI s)), some (.int (nI l)), some (.int (nI (s * 3 + l))), some (.int (nI cx))] [] (re_put G a J (va_up B 13 (cp (B 13) (0) (B 73) (160 * (s * 3 + l)) cx))) Q := by
        intro cj
        induction cj with
        | zero =>
          intro cx hij
          have hi : cx = (bb_w g).length := by omega
          subst hi
          refine rz_blk' [(.iload 4, 2, 0, 0), (.aload_n 0, 1, 0, 0), (.getfield 246, 3, 10, 12), (.if_icmp .ge 29, 3, 0, 0)] (by decide +kernel) (Nat.le_refl _) (Nat.le_refl _) (fun K R hK hR => ?_)
          simp only [↓rx_aload_n0, ↓rx_getfield, ↓rx_if_icmp_ge, ↓rx_iload, ↓rx_nil, ↓ry_i2, ↓ry_li0s, ↓ry_li0z, ↓ry_lr0s, ↓ry_lr0z, ↓ry_obu, ↓ry_r1, ↓re_F12, ↓re_ob, j12, rz_set, rz_nol, rz_clr, List.set_cons_zero, List.set_cons_succ, rz_tr, Nat.reduceAdd, Int.reduceAdd, Int.reduceToNat, Int.reduceSub, Int.reduceNeg, Int.cast_ofNat_Int]
          try simp (disch := omega) only [j12, pk_us, pk_un, va_up_self, va_up_ne, nI_add, pk_mul, nI_clamp, vp_inT, nI_ltI, nI_leI, nI_eqI, pk_sub, true_and, and_true]
          refine ⟨fun q1 => hK _ _ _ _ ?_, fun q1 => by omega⟩
          exact hx
        | succ cj ih =>
          intro cx hij
          refine rz_blk' [(.iload 4, 2, 0, 0), (.aload_n 0, 1, 0, 0), (.getfield 246, 3, 10, 12), (.if_icmp .ge 29, 3, 0, 0)] (by decide +kernel) (Nat.le_refl _) (Nat.le_refl _) (fun K R hK hR => ?_)
          simp only [↓rx_aload_n0, ↓rx_getfield, ↓rx_if_icmp_ge, ↓rx_iload, ↓rx_nil, ↓ry_i2, ↓ry_li0s, ↓ry_li0z, ↓ry_lr0s, ↓ry_lr0z, ↓ry_obu, ↓ry_r1, ↓re_F12, ↓re_ob, j12, rz_set, rz_nol, rz_clr, List.set_cons_zero, List.set_cons_succ, rz_tr, Nat.reduceAdd, Int.reduceAdd, Int.reduceToNat, Int.reduceSub, Int.reduceNeg, Int.cast_ofNat_Int]
          try simp (disch := omega) only [j12, pk_us, pk_un, va_up_self, va_up_ne, nI_add, pk_mul, nI_clamp, vp_inT, nI_ltI, nI_leI, nI_eqI, pk_sub, true_and, and_true]
          refine ⟨fun q2 => by omega, fun q2 => hK _ _ _ _ ?_⟩
          refine rz_blk' [(.aload_n 0, 1, 0, 0), (.getfield 43, 3, 10, 13), (.iload 4, 2, 0, 0), (.aload_n 0, 1, 0, 0), (.getfield 181, 3, 10, 73), (.sipush 160, 3, 0, 0), (.iload_n 3, 1, 0, 0), (.imul, 1, 0, 0), (.iload 4, 2, 0, 0), (.iadd, 1, 0, 0), (.iaload, 1, 0, 0), (.iastore, 1, 0, 0)] (by decide +kernel) (Nat.le_refl _) (Nat.le_refl _) (fun K R hK hR => ?_)
          simp only [rw_s160, ↓rx_aload_n0, ↓rx_getfield, ↓rx_iadd, ↓rx_iaload, ↓rx_iastore, ↓rx_iload, ↓rx_iload_n3, ↓rx_imul, ↓rx_nil, ↓rx_sipush, ↓ry_i2, ↓ry_iau, ↓ry_li0s, ↓ry_li0z, ↓ry_lr0s, ↓ry_lr0z, ↓ry_obu, ↓ry_r1, ↓ry_ri, ↓ry_rii, true_and, re_a13, re_a73, ↓re_F13, ↓re_F73, ↓re_i13, ↓re_i73, ↓re_ob, j12, rz_set, rz_nol, rz_clr, List.set_cons_zero, List.set_cons_succ, rz_tr, Nat.reduceAdd, Int.reduceAdd, Int.reduceToNat, Int.reduceSub, Int.reduceNeg, Int.cast_ofNat_Int]
          try simp (disch := omega) only [j12, pk_us, pk_un, va_up_self, va_up_ne, nI_add, pk_mul, nI_clamp, vp_inT, nI_ltI, nI_leI, nI_eqI, pk_sub, true_and, and_true]
          refine hK _ _ _ _ ?_
          refine rz_blk' [(.iinc 4 1, 3, 0, 0)] (by decide +kernel) (Nat.le_refl _) (Nat.le_refl _) (fun K R hK hR => ?_)
          simp only [rw_c1, ↓rx_iinc, ↓rx_nil, ↓ry_li0s, ↓ry_li0z, j12, rz_set, rz_nol, rz_clr, List.set_cons_zero, List.set_cons_succ, rz_tr, Nat.reduceAdd, Int.reduceAdd, Int.reduceToNat, Int.reduceSub, Int.reduceNeg, Int.cast_ofNat_Int]
          try simp (disch := omega) only [j12, pk_us, pk_un, va_up_self, va_up_ne, nI_add, pk_mul, nI_clamp, vp_inT, nI_ltI, nI_leI, nI_eqI, pk_sub, true_and, and_true]
          refine hK _ _ _ _ ?_
          refine rz_blk' [(.goto (-32), 3, 0, 0)] (by decide +kernel) (Nat.le_refl _) (Nat.le_refl _) (fun K R hK hR => ?_)
          simp only [↓rx_goto, ↓rx_nil, j12, rz_set, rz_nol, rz_clr, List.set_cons_zero, List.set_cons_succ, rz_tr, Nat.reduceAdd, Int.reduceAdd, Int.reduceToNat, Int.reduceSub, Int.reduceNeg, Int.cast_ofNat_Int]
          try simp (disch := omega) only [j12, pk_us, pk_un, va_up_self, va_up_ne, nI_add, pk_mul, nI_clamp, vp_inT, nI_ltI, nI_leI, nI_eqI, pk_sub, true_and, and_true]
          refine hK _ _ _ _ ?_
          have ih := ih (cx + 1) (by omega)
          rw [← cp_s] at ih
          simp only [Nat.zero_add] at ih
          rw [re_vv]
          exact ih
      have := lp ((bb_w g).length) 0 (Nat.zero_add _)
      rw [cp_0, re_ve] at this
      exact this
    have hcm : 3 * s + l = s * 3 + l := by omega
    refine rz_blk' [(.iconst 3, 1, 0, 0), (.iload_n 1, 1, 0, 0), (.imul, 1, 0, 0), (.iload_n 2, 1, 0, 0), (.iadd, 1, 0, 0), (.istore_n 3, 1, 0, 0)] (by decide +kernel) (Nat.le_refl _) (Nat.le_refl _) (fun K R hK hR => ?_)
    simp only [rw_c3, ↓rx_iadd, ↓rx_iconst, ↓rx_iload_n1, ↓rx_iload_n2, ↓rx_imul, ↓rx_istore_n3, ↓rx_nil, ↓ry_i1, ↓ry_i2, ↓ry_li0s, ↓ry_li0z, e1, e2, rz_set, rz_nol, rz_clr, List.set_cons_zero, List.set_cons_succ, rz_tr, Nat.reduceAdd, Int.reduceAdd, Int.reduceToNat, Int.reduceSub, Int.reduceNeg, Int.cast_ofNat_Int]
    try simp (disch := omega) only [e1, e2, hcm, pk_us, pk_un, va_up_self, va_up_ne, nI_add, pk_mul, nI_clamp, vp_inT, nI_ltI, nI_leI, nI_eqI, pk_sub, true_and, and_true]
    refine hK _ _ _ _ ?_
    refine rz_blk' [(.aload_n 0, 1, 0, 0), (.aload_n 0, 1, 0, 0), (.getfield 178, 3, 10, 72), (.iload_n 3, 1, 0, 0), (.iaload, 1, 0, 0), (.putfield 246, 3, 10, 12)] (by decide +kernel) (Nat.le_refl _) (Nat.le_refl _) (fun K R hK hR => ?_)
    simp only [List.length_cons, List.length_nil, Nat.reduceLT, rf_10_12, ↓rx_aload_n0, ↓rx_getfield, ↓rx_iaload, ↓rx_iload_n3, ↓rx_nil, ↓rx_putfield, ↓ry_iau, ↓ry_li0s, ↓ry_li0z, ↓ry_lr0s, ↓ry_lr0z, ↓ry_obu, ↓ry_r1, ↓ry_ri, ↓ry_vr, true_and, re_a72, re_len, re_u12, ↓re_F72, ↓re_i72, ↓re_ob, e1, e2, rz_set, rz_nol, rz_clr, List.set_cons_zero, List.set_cons_succ, rz_tr, Nat.reduceAdd, Int.reduceAdd, Int.reduceToNat, Int.reduceSub, Int.reduceNeg, Int.cast_ofNat_Int]
    try simp (disch := omega) only [e1, e2, hcm, pk_us, pk_un, va_up_self, va_up_ne, nI_add, pk_mul, nI_clamp, vp_inT, nI_ltI, nI_leI, nI_eqI, pk_sub, true_and, and_true]
    refine hK _ _ _ _ ?_
    refine rz_blk' [(.iconst 0, 1, 0, 0), (.istore 4, 2, 0, 0)] (by decide +kernel) (Nat.le_refl _) (Nat.le_refl _) (fun K R hK hR => ?_)
    simp only [rw_c0, ↓rx_iconst, ↓rx_istore, ↓rx_nil, ↓ry_i1, e1, e2, rz_set, rz_nol, rz_clr, List.set_cons_zero, List.set_cons_succ, rz_tr, Nat.reduceAdd, Int.reduceAdd, Int.reduceToNat, Int.reduceSub, Int.reduceNeg, Int.cast_ofNat_Int]
    try simp (disch := omega) only [e1, e2, hcm, pk_us, pk_un, va_up_self, va_up_ne, nI_add, pk_mul, nI_clamp, vp_inT, nI_ltI, nI_leI, nI_eqI, pk_sub, true_and, and_true]
    refine hK _ _ _ _ ?_
    refine c1 A _ pk_us ?_
    generalize hB : va_up A 13 _ = B
    have hBo : ∀ f, f ≠ 13 → B f = A f := fun f hf => by rw [← hB, va_up_ne _ _ hf]
    have hB13 : B 13 = cp (A 13) 0 (A 73) (160 * (s * 3 + l)) (bb_w g).length := by rw [← hB, va_up_self]
    have b71 : B 71 (s * 3 + l) = bb_t g := by rw [hBo 71 (by decide)]; exact e1
    clear hB
    refine rz_blk' [(.aload_n 0, 1, 0, 0), (.getfield 175, 3, 10, 71), (.iload_n 3, 1, 0, 0), (.iaload, 1, 0, 0), (.ireturn, 1, 0, 0)] (by decide +kernel) (Nat.le_refl _) (Nat.le_refl _) (fun K R hK hR => ?_)
    simp only [↓rx_aload_n0, ↓rx_getfield, ↓rx_iaload, ↓rx_iload_n3, ↓rx_ireturn, ↓rx_nil, ↓ry_iau, ↓ry_li0s, ↓ry_li0z, ↓ry_lr0s, ↓ry_lr0z, ↓ry_obu, ↓ry_r1, ↓ry_ri, true_and, re_a71, ↓re_F71, ↓re_i71, ↓re_ob, b71, rz_set, rz_nol, rz_clr, List.set_cons_zero, List.set_cons_succ, rz_tr, Nat.reduceAdd, Int.reduceAdd, Int.reduceToNat, Int.reduceSub, Int.reduceNeg, Int.cast_ofNat_Int]
    try simp (disch := omega) only [b71, hcm, pk_us, pk_un, va_up_self, va_up_ne, nI_add, pk_mul, nI_clamp, vp_inT, nI_ltI, nI_leI, nI_eqI, pk_sub, true_and, and_true]
    refine hR _ _ (rz_nb_i (by decide)) ?_
    rw [← hQ]; refine ⟨⟨_, by first | rfl | assumption⟩, ?_⟩
    obtain ⟨n46, hn46, e46⟩ := h.2.2.1
    refine rv_f (by rw [pk_un (by decide), pk_us]) (rf_r (KI := [0, 12]) (K := [13]) h ((fi.rf.u rfl).u rfl) (fun f hf => hBo f (by intro q; subst q; revert hf; decide)) hn46 (by rw [pk_un (by decide), pk_un (by decide)]; exact e46) ⟨pk_us, by rw [hB13]; exact sg_cp e4 (Nat.le_refl _), by omega⟩ rfl rfl) ⟨s, l, hs, hl, rfl, rfl, by rw [hg], by rw [hg]⟩
  refine rz_enter' [some (.ref a), some (.int x), some (.int y), none, none] (by decide +kernel) rfl rfl (Nat.le_of_ble_eq_true rfl) rfl ?_
  by_cases hn0 : n = 0
  · have g68 : I 68 = 0 := by rw [g68, decide_eq_false (by omega)]; rfl
    refine rz_blk' [(.aload_n 0, 1, 0, 0), (.iconst 0, 1, 0, 0), (.putfield 206, 3, 10, 0)] (by decide +kernel) (Nat.le_refl _) (Nat.le_refl _) (fun K R hK hR => ?_)
    simp only [List.length_cons, List.length_nil, Nat.reduceLT, rf_10_0, rw_c0, ↓rx_aload_n0, ↓rx_iconst, ↓rx_nil, ↓rx_putfield, ↓ry_lr0s, ↓ry_lr0z, ↓ry_obu, ↓ry_vr, true_and, re_len, re_u0, ↓re_ob, g68, rz_set, rz_nol, rz_clr, List.set_cons_zero, List.set_cons_succ, rz_tr, Nat.reduceAdd, Int.reduceAdd, Int.reduceToNat, Int.reduceSub, Int.reduceNeg, Int.cast_ofNat_Int]
    try simp (disch := omega) only [g68, pk_us, pk_un, va_up_self, va_up_ne, nI_add, pk_mul, nI_clamp, vp_inT, nI_ltI, nI_leI, nI_eqI, pk_sub, true_and, and_true]
    refine hK _ _ _ _ ?_
    refine rz_blk' [(.aload_n 0, 1, 0, 0), (.getfield 391, 3, 10, 68), (.ifCond .ne 9, 3, 0, 0)] (by decide +kernel) (Nat.le_refl _) (Nat.le_refl _) (fun K R hK hR => ?_)
    simp only [↓rx_aload_n0, ↓rx_getfield, ↓rx_ifCond_ne, ↓rx_nil, ↓ry_i1, ↓ry_lr0s, ↓ry_lr0z, ↓ry_obu, ↓ry_r1, ↓re_F68, ↓re_ob, g68, rz_set, rz_nol, rz_clr, List.set_cons_zero, List.set_cons_succ, rz_tr, Nat.reduceAdd, Int.reduceAdd, Int.reduceToNat, Int.reduceSub, Int.reduceNeg, Int.cast_ofNat_Int]
    try simp (disch := omega) only [g68, pk_us, pk_un, va_up_self, va_up_ne, nI_add, pk_mul, nI_clamp, vp_inT, nI_ltI, nI_leI, nI_eqI, pk_sub, true_and, and_true]
    refine ⟨fun q3 => by first | exact absurd rfl q3 | exact absurd trivial q3, fun q3 => hK _ _ _ _ ?_⟩
    refine rz_blk' [(.aload_n 0, 1, 0, 0), (.iconst 1, 1, 0, 0)] (by decide +kernel) (Nat.le_refl _) (Nat.le_refl _) (fun K R hK hR => ?_)
    simp only [rw_c1, ↓rx_aload_n0, ↓rx_iconst, ↓rx_nil, ↓ry_lr0s, ↓ry_lr0z, g68, rz_set, rz_nol, rz_clr, List.set_cons_zero, List.set_cons_succ, rz_tr, Nat.reduceAdd, Int.reduceAdd, Int.reduceToNat, Int.reduceSub, Int.reduceNeg, Int.cast_ofNat_Int]
    try simp (disch := omega) only [g68, pk_us, pk_un, va_up_self, va_up_ne, nI_add, pk_mul, nI_clamp, vp_inT, nI_ltI, nI_leI, nI_eqI, pk_sub, true_and, and_true]
    refine hK _ _ _ _ ?_
    refine rz_cV (As := [.int (nI 1)]) (b := a) (S := []) l_Mod_218 (by decide +kernel) rfl re_at0 rfl (Nat.le_of_ble_eq_true rfl) (Nat.le_refl _) (Nat.le_refl _) (c_Mod_fail _) (fun r G' hr => ?_)
    obtain ⟨rfl, rfl⟩ := hr
    simp only [Option.toList, List.cons_append, List.nil_append]
    refine rz_blk' [(.ireturn, 1, 0, 0)] (by decide +kernel) (Nat.le_refl _) (Nat.le_refl _) (fun K R hK hR => ?_)
    simp only [↓rx_ireturn, ↓rx_nil, g68, rz_set, rz_nol, rz_clr, List.set_cons_zero, List.set_cons_succ, rz_tr, Nat.reduceAdd, Int.reduceAdd, Int.reduceToNat, Int.reduceSub, Int.reduceNeg, Int.cast_ofNat_Int]
    try simp (disch := omega) only [g68, pk_us, pk_un, va_up_self, va_up_ne, nI_add, pk_mul, nI_clamp, vp_inT, nI_ltI, nI_leI, nI_eqI, pk_sub, true_and, and_true]
    exact hR _ _ (rz_nb_i (by decide)) (by rw [← hQ]; refine ⟨⟨_, by first | rfl | assumption⟩, ?_⟩; exact rv_e (rf_0 h) 1 (by decide) (by decide) (Or.inl ⟨rfl, hn0⟩))
  have g68 : I 68 = 1 := by rw [g68, decide_eq_true (by omega)]; rfl
  have key1 := wi_iff (x := x) (lo := 0) (hi := n - 1) (by decide) (by omega)
  refine rz_blk' [(.aload_n 0, 1, 0, 0), (.iconst 0, 1, 0, 0), (.putfield 206, 3, 10, 0)] (by decide +kernel) (Nat.le_refl _) (Nat.le_refl _) (fun K R hK hR => ?_)
  simp only [List.length_cons, List.length_nil, Nat.reduceLT, rf_10_0, rw_c0, ↓rx_aload_n0, ↓rx_iconst, ↓rx_nil, ↓rx_putfield, ↓ry_lr0s, ↓ry_lr0z, ↓ry_obu, ↓ry_vr, true_and, re_len, re_u0, ↓re_ob, g68, g67, rz_set, rz_nol, rz_clr, List.set_cons_zero, List.set_cons_succ, rz_tr, Nat.reduceAdd, Int.reduceAdd, Int.reduceToNat, Int.reduceSub, Int.reduceNeg, Int.cast_ofNat_Int]
  try simp (disch := omega) only [g68, g67, pk_us, pk_un, va_up_self, va_up_ne, nI_add, pk_mul, nI_clamp, vp_inT, nI_ltI, nI_leI, nI_eqI, pk_sub, true_and, and_true]
  refine hK _ _ _ _ ?_
  refine rz_blk' [(.aload_n 0, 1, 0, 0), (.getfield 391, 3, 10, 68), (.ifCond .ne 9, 3, 0, 0)] (by decide +kernel) (Nat.le_refl _) (Nat.le_refl _) (fun K R hK hR => ?_)
  simp only [↓rx_aload_n0, ↓rx_getfield, ↓rx_ifCond_ne, ↓rx_nil, ↓ry_i1, ↓ry_lr0s, ↓ry_lr0z, ↓ry_obu, ↓ry_r1, ↓re_F68, ↓re_ob, g68, g67, rz_set, rz_nol, rz_clr, List.set_cons_zero, List.set_cons_succ, rz_tr, Nat.reduceAdd, Int.reduceAdd, Int.reduceToNat, Int.reduceSub, Int.reduceNeg, Int.cast_ofNat_Int]
  try simp (disch := omega) only [g68, g67, pk_us, pk_un, va_up_self, va_up_ne, nI_add, pk_mul, nI_clamp, vp_inT, nI_ltI, nI_leI, nI_eqI, pk_sub, true_and, and_true]
  refine ⟨fun q4 => hK _ _ _ _ ?_, fun q4 => absurd q4 (by decide)⟩
  refine rz_blk' [(.iload_n 1, 1, 0, 0), (.iconst 0, 1, 0, 0), (.aload_n 0, 1, 0, 0), (.getfield 388, 3, 10, 67), (.iconst 1, 1, 0, 0), (.isub, 1, 0, 0)] (by decide +kernel) (Nat.le_refl _) (Nat.le_refl _) (fun K R hK hR => ?_)
  simp only [rw_c0, rw_c1, ↓rx_aload_n0, ↓rx_getfield, ↓rx_iconst, ↓rx_iload_n1, ↓rx_isub, ↓rx_nil, ↓ry_i2, ↓ry_li0s, ↓ry_li0z, ↓ry_lr0s, ↓ry_lr0z, ↓ry_obu, ↓ry_r1, ↓re_F67, ↓re_ob, g68, g67, rz_set, rz_nol, rz_clr, List.set_cons_zero, List.set_cons_succ, rz_tr, Nat.reduceAdd, Int.reduceAdd, Int.reduceToNat, Int.reduceSub, Int.reduceNeg, Int.cast_ofNat_Int]
  try simp (disch := omega) only [g68, g67, pk_us, pk_un, va_up_self, va_up_ne, nI_add, pk_mul, nI_clamp, vp_inT, nI_ltI, nI_leI, nI_eqI, pk_sub, true_and, and_true]
  refine hK _ _ _ _ ?_
  refine rz_cS (As := [.int x, .int (nI 0), .int (nI (n - 1))]) (S := []) l_Mod_210 (by decide +kernel) rfl (Nat.le_of_ble_eq_true rfl) (Nat.le_refl _) (Nat.le_refl _) (c_Mod_within _ _ _) (fun r G' hr => ?_)
  obtain ⟨rfl, hg⟩ := hr
  subst hg
  simp only [Option.toList, List.cons_append, List.nil_append]
  refine rz_blk' [(.ifCond .eq 12, 3, 0, 0)] (by decide +kernel) (Nat.le_refl _) (Nat.le_refl _) (fun K R hK hR => ?_)
  simp only [↓rx_ifCond_eq, ↓rx_nil, ↓ry_i1, g68, g67, rz_set, rz_nol, rz_clr, List.set_cons_zero, List.set_cons_succ, rz_tr, Nat.reduceAdd, Int.reduceAdd, Int.reduceToNat, Int.reduceSub, Int.reduceNeg, Int.cast_ofNat_Int]
  try simp (disch := omega) only [g68, g67, pk_us, pk_un, va_up_self, va_up_ne, nI_add, pk_mul, nI_clamp, vp_inT, nI_ltI, nI_leI, nI_eqI, pk_sub, true_and, and_true]
  rw [rz_b_0]
  refine ⟨fun q5 => hK _ _ _ _ ?_, fun q5 => hK _ _ _ _ ?_⟩
  · -- 29 taken
    refine rz_blk' [(.aload_n 0, 1, 0, 0), (.iconst 2, 1, 0, 0)] (by decide +kernel) (Nat.le_refl _) (Nat.le_refl _) (fun K R hK hR => ?_)
    simp only [rw_c2, ↓rx_aload_n0, ↓rx_iconst, ↓rx_nil, ↓ry_lr0s, ↓ry_lr0z, g68, g67, rz_set, rz_nol, rz_clr, List.set_cons_zero, List.set_cons_succ, rz_tr, Nat.reduceAdd, Int.reduceAdd, Int.reduceToNat, Int.reduceSub, Int.reduceNeg, Int.cast_ofNat_Int]
    try simp (disch := omega) only [g68, g67, pk_us, pk_un, va_up_self, va_up_ne, nI_add, pk_mul, nI_clamp, vp_inT, nI_ltI, nI_leI, nI_eqI, pk_sub, true_and, and_true]
    refine hK _ _ _ _ ?_
    refine rz_cV (As := [.int (nI 2)]) (b := a) (S := []) l_Mod_218 (by decide +kernel) rfl re_at0 rfl (Nat.le_of_ble_eq_true rfl) (Nat.le_refl _) (Nat.le_refl _) (c_Mod_fail _) (fun r G' hr => ?_)
    obtain ⟨rfl, rfl⟩ := hr
    simp only [Option.toList, List.cons_append, List.nil_append]
    refine rz_blk' [(.ireturn, 1, 0, 0)] (by decide +kernel) (Nat.le_refl _) (Nat.le_refl _) (fun K R hK hR => ?_)
    simp only [↓rx_ireturn, ↓rx_nil, g68, g67, rz_set, rz_nol, rz_clr, List.set_cons_zero, List.set_cons_succ, rz_tr, Nat.reduceAdd, Int.reduceAdd, Int.reduceToNat, Int.reduceSub, Int.reduceNeg, Int.cast_ofNat_Int]
    try simp (disch := omega) only [g68, g67, pk_us, pk_un, va_up_self, va_up_ne, nI_add, pk_mul, nI_clamp, vp_inT, nI_ltI, nI_leI, nI_eqI, pk_sub, true_and, and_true]
    refine hR _ _ (rz_nb_i (by decide)) ?_
    rw [← hQ]; refine ⟨⟨_, by first | rfl | assumption⟩, ?_⟩
    refine rv_e (rf_0 h) 2 (by decide) (by decide) (Or.inr ⟨rfl, hn0, fun ⟨⟨s, hs, e1⟩, ⟨l, hl, e2⟩⟩ => ?_⟩)
    
    first
      | (rw [key1.mpr ⟨s, Nat.zero_le _, by omega, e1⟩] at q5; cases q5)
      | (rw [key2.mpr ⟨l, Nat.zero_le _, by omega, e2⟩] at q5; cases q5)
  · -- 29 not taken
    refine rz_blk' [(.iload_n 2, 1, 0, 0), (.iconst 0, 1, 0, 0), (.iconst 2, 1, 0, 0)] (by decide +kernel) (Nat.le_refl _) (Nat.le_refl _) (fun K R hK hR => ?_)
    simp only [rw_c0, rw_c2, ↓rx_iconst, ↓rx_iload_n2, ↓rx_nil, ↓ry_li0s, ↓ry_li0z, g68, g67, rz_set, rz_nol, rz_clr, List.set_cons_zero, List.set_cons_succ, rz_tr, Nat.reduceAdd, Int.reduceAdd, Int.reduceToNat, Int.reduceSub, Int.reduceNeg, Int.cast_ofNat_Int]
    try simp (disch := omega) only [g68, g67, pk_us, pk_un, va_up_self, va_up_ne, nI_add, pk_mul, nI_clamp, vp_inT, nI_ltI, nI_leI, nI_eqI, pk_sub, true_and, and_true]
    refine hK _ _ _ _ ?_
    refine rz_cS (As := [.int y, .int (nI 0), .int (nI 2)]) (S := []) l_Mod_210 (by decide +kernel) rfl (Nat.le_of_ble_eq_true rfl) (Nat.le_refl _) (Nat.le_refl _) (c_Mod_within _ _ _) (fun r G' hr => ?_)
    obtain ⟨rfl, hg⟩ := hr
    subst hg
    simp only [Option.toList, List.cons_append, List.nil_append]
    refine rz_blk' [(.ifCond .ne 9, 3, 0, 0)] (by decide +kernel) (Nat.le_refl _) (Nat.le_refl _) (fun K R hK hR => ?_)
    simp only [↓rx_ifCond_ne, ↓rx_nil, ↓ry_i1, g68, g67, rz_set, rz_nol, rz_clr, List.set_cons_zero, List.set_cons_succ, rz_tr, Nat.reduceAdd, Int.reduceAdd, Int.reduceToNat, Int.reduceSub, Int.reduceNeg, Int.cast_ofNat_Int]
    try simp (disch := omega) only [g68, g67, pk_us, pk_un, va_up_self, va_up_ne, nI_add, pk_mul, nI_clamp, vp_inT, nI_ltI, nI_leI, nI_eqI, pk_sub, true_and, and_true]
    rw [rz_b_0]
    refine ⟨fun q6 => hK _ _ _ _ ?_, fun q6 => hK _ _ _ _ ?_⟩
    · -- 38 taken
      obtain ⟨s, -, hs, e1⟩ := key1.mp (by simpa using q5)
      obtain ⟨l, -, hl, e2⟩ := key2.mp (by simpa using q6)
      exact hmain s l (by omega) (by omega) e1 e2
    · -- 38 not taken
      refine rz_blk' [(.aload_n 0, 1, 0, 0), (.iconst 2, 1, 0, 0)] (by decide +kernel) (Nat.le_refl _) (Nat.le_refl _) (fun K R hK hR => ?_)
      simp only [rw_c2, ↓rx_aload_n0, ↓rx_iconst, ↓rx_nil, ↓ry_lr0s, ↓ry_lr0z, g68, g67, rz_set, rz_nol, rz_clr, List.set_cons_zero, List.set_cons_succ, rz_tr, Nat.reduceAdd, Int.reduceAdd, Int.reduceToNat, Int.reduceSub, Int.reduceNeg, Int.cast_ofNat_Int]
      try simp (disch := omega) only [g68, g67, pk_us, pk_un, va_up_self, va_up_ne, nI_add, pk_mul, nI_clamp, vp_inT, nI_ltI, nI_leI, nI_eqI, pk_sub, true_and, and_true]
      refine hK _ _ _ _ ?_
      refine rz_cV (As := [.int (nI 2)]) (b := a) (S := []) l_Mod_218 (by decide +kernel) rfl re_at0 rfl (Nat.le_of_ble_eq_true rfl) (Nat.le_refl _) (Nat.le_refl _) (c_Mod_fail _) (fun r G' hr => ?_)
      obtain ⟨rfl, rfl⟩ := hr
      simp only [Option.toList, List.cons_append, List.nil_append]
      refine rz_blk' [(.ireturn, 1, 0, 0)] (by decide +kernel) (Nat.le_refl _) (Nat.le_refl _) (fun K R hK hR => ?_)
      simp only [↓rx_ireturn, ↓rx_nil, g68, g67, rz_set, rz_nol, rz_clr, List.set_cons_zero, List.set_cons_succ, rz_tr, Nat.reduceAdd, Int.reduceAdd, Int.reduceToNat, Int.reduceSub, Int.reduceNeg, Int.cast_ofNat_Int]
      try simp (disch := omega) only [g68, g67, pk_us, pk_un, va_up_self, va_up_ne, nI_add, pk_mul, nI_clamp, vp_inT, nI_ltI, nI_leI, nI_eqI, pk_sub, true_and, and_true]
      refine hR _ _ (rz_nb_i (by decide)) ?_
      rw [← hQ]; refine ⟨⟨_, by first | rfl | assumption⟩, ?_⟩
      refine rv_e (rf_0 h) 2 (by decide) (by decide) (Or.inr ⟨rfl, hn0, fun ⟨⟨s, hs, e1⟩, ⟨l, hl, e2⟩⟩ => ?_⟩)
      
      first
        | (rw [key1.mpr ⟨s, Nat.zero_le _, by omega, e1⟩] at q6; cases q6)
        | (rw [key2.mpr ⟨l, Nat.zero_le _, by omega, e2⟩] at q6; cases q6)
set_option maxRecDepth 100000 in
set_option maxHeartbeats 4000000 in
theorem cr_Mod_ends {w : rz_w} {d : Nat} {G : rz_G} {a : Nat} {I : Nat → Int32} {A : Nat → Nat → Int32} {V : dk_V} (h : rf I A V) (x : Int32) : rz_C w (d + 2) 0 0 y_Mod_ends m_Mod_ends [.ref a, .int x] (re_put G a I A) (fun (r : Option Value) (G' : rz_G) => (∃ v, r = some (.int v)) ∧ (rv G a V (fun r V' => V.2.2.1.2.1.length ≠ 0 ∧ ((x = -1 ∧ r = some (.int 1) ∧ V' = dk_ur V V.2.2.1.1) ∨ ∃ s f, V.2.2.1.2.1[s]? = some f ∧ x = nI s ∧ r = some (.int (rz_b f.isSome)) ∧ V' = dk_ur V (f.getD []))) (fun c => (c = 1 ∧ V.2.2.1.2.1.length = 0) ∨ (c = 2 ∧ V.2.2.1.2.1.length ≠ 0 ∧ x ≠ -1 ∧ ∀ s, s < V.2.2.1.2.1.length → x ≠ nI s))) r G') := by
  generalize hQ : (fun (r : Option Value) (G' : rz_G) => (∃ v, r = some (.int v)) ∧ (rv G a V (fun r V' => V.2.2.1.2.1.length ≠ 0 ∧ ((x = -1 ∧ r = some (.int 1) ∧ V' = dk_ur V V.2.2.1.1) ∨ ∃ s f, V.2.2.1.2.1[s]? = some f ∧ x = nI s ∧ r = some (.int (rz_b f.isSome)) ∧ V' = dk_ur V (f.getD []))) (fun c => (c = 1 ∧ V.2.2.1.2.1.length = 0) ∨ (c = 2 ∧ V.2.2.1.2.1.length ≠ 0 ∧ x ≠ -1 ∧ ∀ s, s < V.2.2.1.2.1.length → x ≠ nI s))) r G') = Q
  obtain ⟨-, g67, g40, g68, g69, g64, g70, gE, gC⟩ := id h.2.2
  generalize hn : V.2.2.1.2.1.length = n at *
  have hfin : ∀ (R : List Nat) (r : Option Value) (B : Nat → Nat → Int32), n ≠ 0 → ((x = -1 ∧ r = some (.int 1) ∧ R = V.2.2.1.1) ∨ ∃ s f, V.2.2.1.2.1[s]? = some f ∧ x = nI s ∧ r = some (.int (rz_b f.isSome)) ∧ R = f.getD []) → R.length ≤ 4096 → fa [13] A B → sg (B 13) 0 R → Q r (re_put G a (upd (upd I 0 (nI 0)) 12 (nI R.length)) B) := by
    intro R r B hn0 hr hR aB sB
    rw [← hQ ]; refine ⟨by rcases hr with ⟨_, e, _⟩ | ⟨_, _, _, _, e, _⟩ <;> exact ⟨_, e⟩, ?_⟩
    obtain ⟨n46, hn46, e46⟩ := h.2.2.1
    refine rv_f (V' := dk_ur V R) (by rw [pk_un (by decide), pk_us]) (rf_r (KI := [0, 12]) (K := [13]) h ((fi.rf.u rfl).u rfl) aB hn46 (by rw [pk_un (by decide), pk_un (by decide)]; exact e46) ⟨pk_us, sB, hR⟩ rfl rfl) ⟨hn0, ?_⟩
    rcases hr with ⟨e1, e2, rfl⟩ | ⟨s, f, e1, e2, e3, rfl⟩
    · exact Or.inl ⟨e1, e2, rfl⟩
    · exact Or.inr ⟨s, f, e1, e2, e3, rfl⟩
  have hm1 : n ≠ 0 → x = -1 → rz_T w (d + 2) 0 0 m_Mod_ends 0 0 59 [some (.ref a), some (.int x), none] [] (re_put G a (upd I 0 (nI 0)) A) Q := by
    intro hn0 hx
    have c1 : ∀ (B : Nat → Nat → Int32) (J : Nat → Int32), J 12 = nI V.2.2.1.1.length → rz_T w (d + 2) 0 0 m_Mod_ends 0 0 95 [some (.ref a), some (.int x), some (.int (nI (V.2.2.1.1.length)))] [] (re_put G a J (va_up B 13 (cp (B 13) (0) (B 70) (0) (V.2.2.1.1.length)))) Q → rz_T w (d + 2) 0 0 m_Mod_ends 0 0 69 [some (.ref a), some (.int x), some (.int (nI 0))] [] (re_put G a J B) Q := by
      intro B J j12 hx
      have lp : ∀ (cj cx : Nat), cx + cj = V.2.2.1.1.length → rz_T w (d + 2) 0 0 m_Mod_ends 0 0 69 [some (.ref a), some (.int x), some (.int (nI cx))] [] (re_put G a J (va_up B 13 (cp (B 13) (0) (B 70) (0) cx))) Q := by
        intro cj
        induction cj with
        | zero =>
          intro cx hij
          have hi : cx = V.2.2.1.1.length := by omega
          subst hi
          refine rz_blk' [(.iload_n 2, 1, 0, 0), (.aload_n 0, 1, 0, 0), (.getfield 246, 3, 10, 12), (.if_icmp .ge 21, 3, 0, 0)] (by decide +kernel) (Nat.le_refl _) (Nat.le_refl _) (fun K R hK hR => ?_)
          simp only [↓rx_aload_n0, ↓rx_getfield, ↓rx_if_icmp_ge, ↓rx_iload_n2, ↓rx_nil, ↓ry_i2, ↓ry_li0s, ↓ry_li0z, ↓ry_lr0s, ↓ry_lr0z, ↓ry_obu, ↓ry_r1, ↓re_F12, ↓re_ob, j12, rz_set, rz_nol, rz_clr, List.set_cons_zero, List.set_cons_succ, rz_tr, Nat.reduceAdd, Int.reduceAdd, Int.reduceToNat, Int.reduceSub, Int.reduceNeg, Int.cast_ofNat_Int]
          try simp (disch := omega) only [j12, pk_us, pk_un, va_up_self, va_up_ne, nI_add, pk_mul, nI_clamp, vp_inT, nI_ltI, nI_leI, nI_eqI, pk_sub, true_and, and_true]
          refine ⟨fun q1 => hK _ _ _ _ ?_, fun q1 => by omega⟩
          exact hx
        | succ cj ih =>
          intro cx hij
          refine rz_blk' [(.iload_n 2, 1, 0, 0), (.aload_n 0, 1, 0, 0), (.getfield 246, 3, 10, 12), (.if_icmp .ge 21, 3, 0, 0)] (by decide +kernel) (Nat.le_refl _) (Nat.le_refl _) (fun K R hK hR => ?_)
          simp only [↓rx_aload_n0, ↓rx_getfield, ↓rx_if_icmp_ge, ↓rx_iload_n2, ↓rx_nil, ↓ry_i2, ↓ry_li0s, ↓ry_li0z, ↓ry_lr0s, ↓ry_lr0z, ↓ry_obu, ↓ry_r1, ↓re_F12, ↓re_ob, j12, rz_set, rz_nol, rz_clr, List.set_cons_zero, List.set_cons_succ, rz_tr, Nat.reduceAdd, Int.reduceAdd, Int.reduceToNat, Int.reduceSub, Int.reduceNeg, Int.cast_ofNat_Int]
          try simp (disch := omega) only [j12, pk_us, pk_un, va_up_self, va_up_ne, nI_add, pk_mul, nI_clamp, vp_inT, nI_ltI, nI_leI, nI_eqI, pk_sub, true_and, and_true]
          refine ⟨fun q2 => by omega, fun q2 => hK _ _ _ _ ?_⟩
          refine rz_blk' [(.aload_n 0, 1, 0, 0), (.getfield 43, 3, 10, 13), (.iload_n 2, 1, 0, 0), (.aload_n 0, 1, 0, 0), (.getfield 172, 3, 10, 70), (.iload_n 2, 1, 0, 0), (.iaload, 1, 0, 0), (.iastore, 1, 0, 0)] (by decide +kernel) (Nat.le_refl _) (Nat.le_refl _) (fun K R hK hR => ?_)
          simp only [↓rx_aload_n0, ↓rx_getfield, ↓rx_iaload, ↓rx_iastore, ↓rx_iload_n2, ↓rx_nil, ↓ry_iau, ↓ry_li0s, ↓ry_li0z, ↓ry_lr0s, ↓ry_lr0z, ↓ry_obu, ↓ry_r1, ↓ry_ri, ↓ry_rii, true_and, re_a13, re_a70, ↓re_F13, ↓re_F70, ↓re_i13, ↓re_i70, ↓re_ob, j12, rz_set, rz_nol, rz_clr, List.set_cons_zero, List.set_cons_succ, rz_tr, Nat.reduceAdd, Int.reduceAdd, Int.reduceToNat, Int.reduceSub, Int.reduceNeg, Int.cast_ofNat_Int]
          try simp (disch := omega) only [j12, pk_us, pk_un, va_up_self, va_up_ne, nI_add, pk_mul, nI_clamp, vp_inT, nI_ltI, nI_leI, nI_eqI, pk_sub, true_and, and_true]
          refine hK _ _ _ _ ?_
          refine rz_blk' [(.iinc 2 1, 3, 0, 0)] (by decide +kernel) (Nat.le_refl _) (Nat.le_refl _) (fun K R hK hR => ?_)
          simp only [rw_c1, ↓rx_iinc, ↓rx_nil, ↓ry_li0s, ↓ry_li0z, j12, rz_set, rz_nol, rz_clr, List.set_cons_zero, List.set_cons_succ, rz_tr, Nat.reduceAdd, Int.reduceAdd, Int.reduceToNat, Int.reduceSub, Int.reduceNeg, Int.cast_ofNat_Int]
          try simp (disch := omega) only [j12, pk_us, pk_un, va_up_self, va_up_ne, nI_add, pk_mul, nI_clamp, vp_inT, nI_ltI, nI_leI, nI_eqI, pk_sub, true_and, and_true]
          refine hK _ _ _ _ ?_
          refine rz_blk' [(.goto (-23), 3, 0, 0)] (by decide +kernel) (Nat.le_refl _) (Nat.le_refl _) (fun K R hK hR => ?_)
          simp only [↓rx_goto, ↓rx_nil, j12, rz_set, rz_nol, rz_clr, List.set_cons_zero, List.set_cons_succ, rz_tr, Nat.reduceAdd, Int.reduceAdd, Int.reduceToNat, Int.reduceSub, Int.reduceNeg, Int.cast_ofNat_Int]
          try simp (disch := omega) only [j12, pk_us, pk_un, va_up_self, va_up_ne, nI_add, pk_mul, nI_clamp, vp_inT, nI_ltI, nI_leI, nI_eqI, pk_sub, true_and, and_true]
          refine hK _ _ _ _ ?_
          have ih := ih (cx + 1) (by omega)
          rw [← cp_s] at ih
          simp only [Nat.zero_add] at ih
          rw [re_vv]
          exact ih
      have := lp (V.2.2.1.1.length) 0 (Nat.zero_add _)
      rw [cp_0, re_ve] at this
      exact this
    refine rz_blk' [(.aload_n 0, 1, 0, 0), (.aload_n 0, 1, 0, 0), (.getfield 395, 3, 10, 69), (.putfield 246, 3, 10, 12)] (by decide +kernel) (Nat.le_refl _) (Nat.le_refl _) (fun K R hK hR => ?_)
    simp only [List.length_cons, List.length_nil, Nat.reduceLT, rf_10_12, ↓rx_aload_n0, ↓rx_getfield, ↓rx_nil, ↓rx_putfield, ↓ry_lr0s, ↓ry_lr0z, ↓ry_obu, ↓ry_r1, ↓ry_vr, true_and, re_len, re_u12, ↓re_F69, ↓re_ob, g69, rz_set, rz_nol, rz_clr, List.set_cons_zero, List.set_cons_succ, rz_tr, Nat.reduceAdd, Int.reduceAdd, Int.reduceToNat, Int.reduceSub, Int.reduceNeg, Int.cast_ofNat_Int]
    try simp (disch := omega) only [g69, pk_us, pk_un, va_up_self, va_up_ne, nI_add, pk_mul, nI_clamp, vp_inT, nI_ltI, nI_leI, nI_eqI, pk_sub, true_and, and_true]
    refine hK _ _ _ _ ?_
    refine rz_blk' [(.iconst 0, 1, 0, 0), (.istore_n 2, 1, 0, 0)] (by decide +kernel) (Nat.le_refl _) (Nat.le_refl _) (fun K R hK hR => ?_)
    simp only [rw_c0, ↓rx_iconst, ↓rx_istore_n2, ↓rx_nil, ↓ry_i1, g69, rz_set, rz_nol, rz_clr, List.set_cons_zero, List.set_cons_succ, rz_tr, Nat.reduceAdd, Int.reduceAdd, Int.reduceToNat, Int.reduceSub, Int.reduceNeg, Int.cast_ofNat_Int]
    try simp (disch := omega) only [g69, pk_us, pk_un, va_up_self, va_up_ne, nI_add, pk_mul, nI_clamp, vp_inT, nI_ltI, nI_leI, nI_eqI, pk_sub, true_and, and_true]
    refine hK _ _ _ _ ?_
    refine c1 A _ pk_us ?_
    refine rz_blk' [(.iconst 1, 1, 0, 0), (.ireturn, 1, 0, 0)] (by decide +kernel) (Nat.le_refl _) (Nat.le_refl _) (fun K R hK hR => ?_)
    simp only [rw_c1, ↓rx_iconst, ↓rx_ireturn, ↓rx_nil, g69, rz_set, rz_nol, rz_clr, List.set_cons_zero, List.set_cons_succ, rz_tr, Nat.reduceAdd, Int.reduceAdd, Int.reduceToNat, Int.reduceSub, Int.reduceNeg, Int.cast_ofNat_Int]
    try simp (disch := omega) only [g69, pk_us, pk_un, va_up_self, va_up_ne, nI_add, pk_mul, nI_clamp, vp_inT, nI_ltI, nI_leI, nI_eqI, pk_sub, true_and, and_true]
    refine hR _ _ rz_nb_1 (hfin V.2.2.1.1 _ _ hn0 (Or.inl ⟨hx, rfl, rfl⟩) (by omega) (fa.rf.u rfl) ?_)
    rw [va_up_self]; exact sg_cp g70 (Nat.le_refl _)
  have hs1 : n ≠ 0 → ∀ s, s < n → x = nI s → rz_T w (d + 2) 0 0 m_Mod_ends 0 0 97 [some (.ref a), some (.int x), none] [] (re_put G a (upd I 0 (nI 0)) A) Q := by
    rintro hn0 s hs rfl
    obtain ⟨f, hf⟩ : ∃ f, V.2.2.1.2.1[s]? = some f := ⟨_, List.getElem?_eq_getElem (by omega)⟩
    obtain ⟨e1, e2, e3⟩ := gC s f hf
    have hos : (os f < 0) = (f = none) := os_lt (fun xs hx => by rw [hx] at e2; simp at e2; omega)
    have hosb := os_ge hos
    have c2 : ∀ (B : Nat → Nat → Int32) (J : Nat → Int32), J 12 = nI (f.getD []).length → rz_T w (d + 2) 0 0 m_Mod_ends 0 0 154 [some (.ref a), some (.int (nI s)), some (.int (nI ((f.getD []).length)))] [] (re_put G a J (va_up B 13 (cp (B 13) (0) (B 75) (192 * s) ((f.getD []).length)))) Q → rz_T w (d + 2) 0 0 m_Mod_ends 0 0 122 [some (.ref a), some (.int (nI s)), some (.int (nI 0))] [] (re_put G a J B) Q := by
      intro B J j12 hx
      have lp : ∀ (cj cx : Nat), cx + cj = (f.getD []).length → rz_T w (d + 2) 0 0 m_Mod_ends 0 0 122 [some (.ref a), some (.int (nI s)), some (.int (nI cx))] [] (re_put G a J (va_up B 13 (cp (B 13) (0) (B 75) (192 * s) cx))) Q := by
        intro cj
        induction cj with
        | zero =>
          intro cx hij
          have hi : cx = (f.getD []).length := by omega
          subst hi
          refine rz_blk' [(.iload_n 2, 1, 0, 0), (.aload_n 0, 1, 0, 0), (.getfield 246, 3, 10, 12), (.if_icmp .ge 27, 3, 0, 0)] (by decide +kernel) (Nat.le_refl _) (Nat.le_refl _) (fun K R hK hR => ?_)
          simp only [↓rx_aload_n0, ↓rx_getfield, ↓rx_if_icmp_ge, ↓rx_iload_n2, ↓rx_nil, ↓ry_i2, ↓ry_li0s, ↓ry_li0z, ↓ry_lr0s, ↓ry_lr0z, ↓ry_obu, ↓ry_r1, ↓re_F12, ↓re_ob, j12, rz_set, rz_nol, rz_clr, List.set_cons_zero, List.set_cons_succ, rz_tr, Nat.reduceAdd, Int.reduceAdd, Int.reduceToNat, Int.reduceSub, Int.reduceNeg, Int.cast_ofNat_Int]
          try simp (disch := omega) only [j12, pk_us, pk_un, va_up_self, va_up_ne, nI_add, pk_mul, nI_clamp, vp_inT, nI_ltI, nI_leI, nI_eqI, pk_sub, true_and, and_true]
          refine ⟨fun q3 => hK _ _ _ _ ?_, fun q3 => by omega⟩
          exact hx
        | succ cj ih =>
          intro cx hij
          refine rz_blk' [(.iload_n 2, 1, 0, 0), (.aload_n 0, 1, 0, 0), (.getfield 246, 3, 10, 12), (.if_icmp .ge 27, 3, 0, 0)] (by decide +kernel) (Nat.le_refl _) (Nat.le_refl _) (fun K R hK hR => ?_)
          simp only [↓rx_aload_n0, ↓rx_getfield, ↓rx_if_icmp_ge, ↓rx_iload_n2, ↓rx_nil, ↓ry_i2, ↓ry_li0s, ↓ry_li0z, ↓ry_lr0s, ↓ry_lr0z, ↓ry_obu, ↓ry_r1, ↓re_F12, ↓re_ob, j12, rz_set, rz_nol, rz_clr, List.set_cons_zero, List.set_cons_succ, rz_tr, Nat.reduceAdd, Int.reduceAdd, Int.reduceToNat, Int.reduceSub, Int.reduceNeg, Int.cast_ofNat_Int]
          try simp (disch := omega) only [j12, pk_us, pk_un, va_up_self, va_up_ne, nI_add, pk_mul, nI_clamp, vp_inT, nI_ltI, nI_leI, nI_eqI, pk_sub, true_and, and_true]
          refine ⟨fun q4 => by omega, fun q4 => hK _ _ _ _ ?_⟩
          refine rz_blk' [(.aload_n 0, 1, 0, 0), (.getfield 43, 3, 10, 13), (.iload_n 2, 1, 0, 0), (.aload_n 0, 1, 0, 0), (.getfield 187, 3, 10, 75), (.sipush 192, 3, 0, 0), (.iload_n 1, 1, 0, 0), (.imul, 1, 0, 0), (.iload_n 2, 1, 0, 0), (.iadd, 1, 0, 0), (.iaload, 1, 0, 0), (.iastore, 1, 0, 0)] (by decide +kernel) (Nat.le_refl _) (Nat.le_refl _) (fun K R hK hR => ?_)
          simp only [rw_s192, ↓rx_aload_n0, ↓rx_getfield, ↓rx_iadd, ↓rx_iaload, ↓rx_iastore, ↓rx_iload_n1, ↓rx_iload_n2, ↓rx_imul, ↓rx_nil, ↓rx_sipush, ↓ry_i2, ↓ry_iau, ↓ry_li0s, ↓ry_li0z, ↓ry_lr0s, ↓ry_lr0z, ↓ry_obu, ↓ry_r1, ↓ry_ri, ↓ry_rii, true_and, re_a13, re_a75, ↓re_F13, ↓re_F75, ↓re_i13, ↓re_i75, ↓re_ob, j12, rz_set, rz_nol, rz_clr, List.set_cons_zero, List.set_cons_succ, rz_tr, Nat.reduceAdd, Int.reduceAdd, Int.reduceToNat, Int.reduceSub, Int.reduceNeg, Int.cast_ofNat_Int]
          try simp (disch := omega) only [j12, pk_us, pk_un, va_up_self, va_up_ne, nI_add, pk_mul, nI_clamp, vp_inT, nI_ltI, nI_leI, nI_eqI, pk_sub, true_and, and_true]
          refine hK _ _ _ _ ?_
          refine rz_blk' [(.iinc 2 1, 3, 0, 0)] (by decide +kernel) (Nat.le_refl _) (Nat.le_refl _) (fun K R hK hR => ?_)
          simp only [rw_c1, ↓rx_iinc, ↓rx_nil, ↓ry_li0s, ↓ry_li0z, j12, rz_set, rz_nol, rz_clr, List.set_cons_zero, List.set_cons_succ, rz_tr, Nat.reduceAdd, Int.reduceAdd, Int.reduceToNat, Int.reduceSub, Int.reduceNeg, Int.cast_ofNat_Int]
          try simp (disch := omega) only [j12, pk_us, pk_un, va_up_self, va_up_ne, nI_add, pk_mul, nI_clamp, vp_inT, nI_ltI, nI_leI, nI_eqI, pk_sub, true_and, and_true]
          refine hK _ _ _ _ ?_
          refine rz_blk' [(.goto (-29), 3, 0, 0)] (by decide +kernel) (Nat.le_refl _) (Nat.le_refl _) (fun K R hK hR => ?_)
          simp only [↓rx_goto, ↓rx_nil, j12, rz_set, rz_nol, rz_clr, List.set_cons_zero, List.set_cons_succ, rz_tr, Nat.reduceAdd, Int.reduceAdd, Int.reduceToNat, Int.reduceSub, Int.reduceNeg, Int.cast_ofNat_Int]
          try simp (disch := omega) only [j12, pk_us, pk_un, va_up_self, va_up_ne, nI_add, pk_mul, nI_clamp, vp_inT, nI_ltI, nI_leI, nI_eqI, pk_sub, true_and, and_true]
          refine hK _ _ _ _ ?_
          have ih := ih (cx + 1) (by omega)
          rw [← cp_s] at ih
          simp only [Nat.zero_add] at ih
          rw [re_vv]
          exact ih
      have := lp ((f.getD []).length) 0 (Nat.zero_add _)
      rw [cp_0, re_ve] at this
      exact this
    cases f with
    | none =>
      have hz : (0 ≤ os none) = False := by rw [hosb]; simp
      have hz2 : (os none < 0) = True := by rw [hos]; simp
      refine rz_blk' [(.aload_n 0, 1, 0, 0), (.aload_n 0, 1, 0, 0), (.getfield 184, 3, 10, 74), (.iload_n 1, 1, 0, 0), (.iaload, 1, 0, 0), (.ifCond .ge 7, 3, 0, 0)] (by decide +kernel) (Nat.le_refl _) (Nat.le_refl _) (fun K R hK hR => ?_)
      simp only [↓rx_aload_n0, ↓rx_getfield, ↓rx_iaload, ↓rx_ifCond_ge, ↓rx_iload_n1, ↓rx_nil, ↓ry_i1, ↓ry_iau, ↓ry_li0s, ↓ry_li0z, ↓ry_lr0s, ↓ry_lr0z, ↓ry_obu, ↓ry_r1, ↓ry_ri, true_and, re_a74, ↓re_F74, ↓re_i74, ↓re_ob, e1, rz_set, rz_nol, rz_clr, List.set_cons_zero, List.set_cons_succ, rz_tr, Nat.reduceAdd, Int.reduceAdd, Int.reduceToNat, Int.reduceSub, Int.reduceNeg, Int.cast_ofNat_Int]
      try simp (disch := omega) only [e1, hz, hz2, pk_us, pk_un, va_up_self, va_up_ne, nI_add, pk_mul, nI_clamp, vp_inT, nI_ltI, nI_leI, nI_eqI, pk_sub, true_and, and_true]
      refine ⟨fun q5 => by first | exact absurd q5 (by decide) | exact q5.elim, fun q5 => hK _ _ _ _ ?_⟩
      refine rz_blk' [(.iconst 0, 1, 0, 0), (.goto 9, 3, 0, 0)] (by decide +kernel) (Nat.le_refl _) (Nat.le_refl _) (fun K R hK hR => ?_)
      simp only [rw_c0, ↓rx_goto, ↓rx_iconst, ↓rx_nil, e1, rz_set, rz_nol, rz_clr, List.set_cons_zero, List.set_cons_succ, rz_tr, Nat.reduceAdd, Int.reduceAdd, Int.reduceToNat, Int.reduceSub, Int.reduceNeg, Int.cast_ofNat_Int]
      try simp (disch := omega) only [e1, hz, hz2, pk_us, pk_un, va_up_self, va_up_ne, nI_add, pk_mul, nI_clamp, vp_inT, nI_ltI, nI_leI, nI_eqI, pk_sub, true_and, and_true]
      refine hK _ _ _ _ ?_
      refine rz_blk' [(.putfield 246, 3, 10, 12)] (by decide +kernel) (Nat.le_refl _) (Nat.le_refl _) (fun K R hK hR => ?_)
      simp only [List.length_cons, List.length_nil, Nat.reduceLT, rf_10_12, ↓rx_nil, ↓rx_putfield, ↓ry_obu, ↓ry_vr, true_and, re_len, re_u12, ↓re_ob, e1, rz_set, rz_nol, rz_clr, List.set_cons_zero, List.set_cons_succ, rz_tr, Nat.reduceAdd, Int.reduceAdd, Int.reduceToNat, Int.reduceSub, Int.reduceNeg, Int.cast_ofNat_Int]
      try simp (disch := omega) only [e1, hz, hz2, pk_us, pk_un, va_up_self, va_up_ne, nI_add, pk_mul, nI_clamp, vp_inT, nI_ltI, nI_leI, nI_eqI, pk_sub, true_and, and_true]
      refine hK _ _ _ _ ?_
      refine rz_blk' [(.iconst 0, 1, 0, 0), (.istore_n 2, 1, 0, 0)] (by decide +kernel) (Nat.le_refl _) (Nat.le_refl _) (fun K R hK hR => ?_)
      simp only [rw_c0, ↓rx_iconst, ↓rx_istore_n2, ↓rx_nil, ↓ry_i1, e1, rz_set, rz_nol, rz_clr, List.set_cons_zero, List.set_cons_succ, rz_tr, Nat.reduceAdd, Int.reduceAdd, Int.reduceToNat, Int.reduceSub, Int.reduceNeg, Int.cast_ofNat_Int]
      try simp (disch := omega) only [e1, hz, hz2, pk_us, pk_un, va_up_self, va_up_ne, nI_add, pk_mul, nI_clamp, vp_inT, nI_ltI, nI_leI, nI_eqI, pk_sub, true_and, and_true]
      refine hK _ _ _ _ ?_
      refine c2 A _ pk_us ?_
      generalize hB : va_up A 13 _ = B
      have hBo : ∀ f, f ≠ 13 → B f = A f := fun f hf => by rw [← hB, va_up_ne _ _ hf]
      have b74 : B 74 s = os none := by rw [hBo 74 (by decide)]; exact e1
      clear hB
      refine rz_blk' [(.aload_n 0, 1, 0, 0), (.getfield 184, 3, 10, 74), (.iload_n 1, 1, 0, 0), (.iaload, 1, 0, 0), (.ifCond .lt 7, 3, 0, 0)] (by decide +kernel) (Nat.le_refl _) (Nat.le_refl _) (fun K R hK hR => ?_)
      simp only [↓rx_aload_n0, ↓rx_getfield, ↓rx_iaload, ↓rx_ifCond_lt, ↓rx_iload_n1, ↓rx_nil, ↓ry_i1, ↓ry_iau, ↓ry_li0s, ↓ry_li0z, ↓ry_lr0s, ↓ry_lr0z, ↓ry_obu, ↓ry_r1, ↓ry_ri, true_and, re_a74, ↓re_F74, ↓re_i74, ↓re_ob, b74, rz_set, rz_nol, rz_clr, List.set_cons_zero, List.set_cons_succ, rz_tr, Nat.reduceAdd, Int.reduceAdd, Int.reduceToNat, Int.reduceSub, Int.reduceNeg, Int.cast_ofNat_Int]
      try simp (disch := omega) only [b74, hz, hz2, pk_us, pk_un, va_up_self, va_up_ne, nI_add, pk_mul, nI_clamp, vp_inT, nI_ltI, nI_leI, nI_eqI, pk_sub, true_and, and_true]
      refine ⟨fun q6 => hK _ _ _ _ ?_, fun q6 => by first | exact absurd trivial q6 | exact absurd (by decide) q6⟩
      refine rz_blk' [(.iconst 0, 1, 0, 0), (.ireturn, 1, 0, 0)] (by decide +kernel) (Nat.le_refl _) (Nat.le_refl _) (fun K R hK hR => ?_)
      simp only [rw_c0, ↓rx_iconst, ↓rx_ireturn, ↓rx_nil, b74, rz_set, rz_nol, rz_clr, List.set_cons_zero, List.set_cons_succ, rz_tr, Nat.reduceAdd, Int.reduceAdd, Int.reduceToNat, Int.reduceSub, Int.reduceNeg, Int.cast_ofNat_Int]
      try simp (disch := omega) only [b74, hz, hz2, pk_us, pk_un, va_up_self, va_up_ne, nI_add, pk_mul, nI_clamp, vp_inT, nI_ltI, nI_leI, nI_eqI, pk_sub, true_and, and_true]
      exact hR _ _ rz_nb_0 (hfin [] _ B hn0 (Or.inr ⟨s, none, hf, rfl, rfl, rfl⟩) (by simp) (fun g hg => hBo g (by intro q; subst q; revert hg; decide)) sg_nil)
    | some u =>
      have e1 : A 74 s = nI u.length := e1
      simp only [Option.getD_some] at e2 e3 c2
      refine rz_blk' [(.aload_n 0, 1, 0, 0), (.aload_n 0, 1, 0, 0), (.getfield 184, 3, 10, 74), (.iload_n 1, 1, 0, 0), (.iaload, 1, 0, 0), (.ifCond .ge 7, 3, 0, 0)] (by decide +kernel) (Nat.le_refl _) (Nat.le_refl _) (fun K R hK hR => ?_)
      simp only [↓rx_aload_n0, ↓rx_getfield, ↓rx_iaload, ↓rx_ifCond_ge, ↓rx_iload_n1, ↓rx_nil, ↓ry_i1, ↓ry_iau, ↓ry_li0s, ↓ry_li0z, ↓ry_lr0s, ↓ry_lr0z, ↓ry_obu, ↓ry_r1, ↓ry_ri, true_and, re_a74, ↓re_F74, ↓re_i74, ↓re_ob, e1, rz_set, rz_nol, rz_clr, List.set_cons_zero, List.set_cons_succ, rz_tr, Nat.reduceAdd, Int.reduceAdd, Int.reduceToNat, Int.reduceSub, Int.reduceNeg, Int.cast_ofNat_Int]
      try simp (disch := omega) only [e1, pk_us, pk_un, va_up_self, va_up_ne, nI_add, pk_mul, nI_clamp, vp_inT, nI_ltI, nI_leI, nI_eqI, pk_sub, true_and, and_true]
      refine ⟨fun q7 => hK _ _ _ _ ?_, fun q7 => absurd (nI_pos' (by omega)) q7⟩
      refine rz_blk' [(.aload_n 0, 1, 0, 0), (.getfield 184, 3, 10, 74), (.iload_n 1, 1, 0, 0), (.iaload, 1, 0, 0), (.putfield 246, 3, 10, 12)] (by decide +kernel) (Nat.le_refl _) (Nat.le_refl _) (fun K R hK hR => ?_)
      simp only [List.length_cons, List.length_nil, Nat.reduceLT, rf_10_12, ↓rx_aload_n0, ↓rx_getfield, ↓rx_iaload, ↓rx_iload_n1, ↓rx_nil, ↓rx_putfield, ↓ry_iau, ↓ry_li0s, ↓ry_li0z, ↓ry_lr0s, ↓ry_lr0z, ↓ry_obu, ↓ry_r1, ↓ry_ri, ↓ry_vr, true_and, re_a74, re_len, re_u12, ↓re_F74, ↓re_i74, ↓re_ob, e1, rz_set, rz_nol, rz_clr, List.set_cons_zero, List.set_cons_succ, rz_tr, Nat.reduceAdd, Int.reduceAdd, Int.reduceToNat, Int.reduceSub, Int.reduceNeg, Int.cast_ofNat_Int]
      try simp (disch := omega) only [e1, pk_us, pk_un, va_up_self, va_up_ne, nI_add, pk_mul, nI_clamp, vp_inT, nI_ltI, nI_leI, nI_eqI, pk_sub, true_and, and_true]
      refine hK _ _ _ _ ?_
      refine rz_blk' [(.iconst 0, 1, 0, 0), (.istore_n 2, 1, 0, 0)] (by decide +kernel) (Nat.le_refl _) (Nat.le_refl _) (fun K R hK hR => ?_)
      simp only [rw_c0, ↓rx_iconst, ↓rx_istore_n2, ↓rx_nil, ↓ry_i1, e1, rz_set, rz_nol, rz_clr, List.set_cons_zero, List.set_cons_succ, rz_tr, Nat.reduceAdd, Int.reduceAdd, Int.reduceToNat, Int.reduceSub, Int.reduceNeg, Int.cast_ofNat_Int]
      try simp (disch := omega) only [e1, pk_us, pk_un, va_up_self, va_up_ne, nI_add, pk_mul, nI_clamp, vp_inT, nI_ltI, nI_leI, nI_eqI, pk_sub, true_and, and_true]
      refine hK _ _ _ _ ?_
      refine c2 A _ pk_us ?_
      generalize hB : va_up A 13 _ = B
      have hBo : ∀ f, f ≠ 13 → B f = A f := fun f hf => by rw [← hB, va_up_ne _ _ hf]
      have hB13 : B 13 = cp (A 13) 0 (A 75) (192 * s) u.length := by rw [← hB, va_up_self]
      have b74 : B 74 s = nI u.length := by rw [hBo 74 (by decide)]; exact e1
      clear hB
      refine rz_blk' [(.aload_n 0, 1, 0, 0), (.getfield 184, 3, 10, 74), (.iload_n 1, 1, 0, 0), (.iaload, 1, 0, 0), (.ifCond .lt 7, 3, 0, 0)] (by decide +kernel) (Nat.le_refl _) (Nat.le_refl _) (fun K R hK hR => ?_)
      simp only [↓rx_aload_n0, ↓rx_getfield, ↓rx_iaload, ↓rx_ifCond_lt, ↓rx_iload_n1, ↓rx_nil, ↓ry_i1, ↓ry_iau, ↓ry_li0s, ↓ry_li0z, ↓ry_lr0s, ↓ry_lr0z, ↓ry_obu, ↓ry_r1, ↓ry_ri, true_and, re_a74, ↓re_F74, ↓re_i74, ↓re_ob, b74, rz_set, rz_nol, rz_clr, List.set_cons_zero, List.set_cons_succ, rz_tr, Nat.reduceAdd, Int.reduceAdd, Int.reduceToNat, Int.reduceSub, Int.reduceNeg, Int.cast_ofNat_Int]
      try simp (disch := omega) only [b74, pk_us, pk_un, va_up_self, va_up_ne, nI_add, pk_mul, nI_clamp, vp_inT, nI_ltI, nI_leI, nI_eqI, pk_sub, true_and, and_true]
      refine ⟨fun q8 => absurd q8 (nI_pos (by omega)), fun q8 => hK _ _ _ _ ?_⟩
      refine rz_blk' [(.iconst 1, 1, 0, 0), (.goto 4, 3, 0, 0)] (by decide +kernel) (Nat.le_refl _) (Nat.le_refl _) (fun K R hK hR => ?_)
      simp only [rw_c1, ↓rx_goto, ↓rx_iconst, ↓rx_nil, b74, rz_set, rz_nol, rz_clr, List.set_cons_zero, List.set_cons_succ, rz_tr, Nat.reduceAdd, Int.reduceAdd, Int.reduceToNat, Int.reduceSub, Int.reduceNeg, Int.cast_ofNat_Int]
      try simp (disch := omega) only [b74, pk_us, pk_un, va_up_self, va_up_ne, nI_add, pk_mul, nI_clamp, vp_inT, nI_ltI, nI_leI, nI_eqI, pk_sub, true_and, and_true]
      refine hK _ _ _ _ ?_
      refine rz_blk' [(.ireturn, 1, 0, 0)] (by decide +kernel) (Nat.le_refl _) (Nat.le_refl _) (fun K R hK hR => ?_)
      simp only [↓rx_ireturn, ↓rx_nil, b74, rz_set, rz_nol, rz_clr, List.set_cons_zero, List.set_cons_succ, rz_tr, Nat.reduceAdd, Int.reduceAdd, Int.reduceToNat, Int.reduceSub, Int.reduceNeg, Int.cast_ofNat_Int]
      try simp (disch := omega) only [b74, pk_us, pk_un, va_up_self, va_up_ne, nI_add, pk_mul, nI_clamp, vp_inT, nI_ltI, nI_leI, nI_eqI, pk_sub, true_and, and_true]
      exact hR _ _ rz_nb_1 (hfin u _ B hn0 (Or.inr ⟨s, some u, hf, rfl, rfl, rfl⟩) (by omega) (fun g hg => hBo g (by intro q; subst q; revert hg; decide)) (by rw [hB13]; exact sg_cp e3 (Nat.le_refl _)))
  refine rz_enter' [some (.ref a), some (.int x), none] (by decide +kernel) rfl rfl (Nat.le_of_ble_eq_true rfl) rfl ?_
  by_cases hn0 : n = 0
  · have g68 : I 68 = 0 := by rw [g68, decide_eq_false (by omega)]; rfl
    refine rz_blk' [(.aload_n 0, 1, 0, 0), (.iconst 0, 1, 0, 0), (.putfield 206, 3, 10, 0)] (by decide +kernel) (Nat.le_refl _) (Nat.le_refl _) (fun K R hK hR => ?_)
    simp only [List.length_cons, List.length_nil, Nat.reduceLT, rf_10_0, rw_c0, ↓rx_aload_n0, ↓rx_iconst, ↓rx_nil, ↓rx_putfield, ↓ry_lr0s, ↓ry_lr0z, ↓ry_obu, ↓ry_vr, true_and, re_len, re_u0, ↓re_ob, g68, rz_set, rz_nol, rz_clr, List.set_cons_zero, List.set_cons_succ, rz_tr, Nat.reduceAdd, Int.reduceAdd, Int.reduceToNat, Int.reduceSub, Int.reduceNeg, Int.cast_ofNat_Int]
    try simp (disch := omega) only [g68, pk_us, pk_un, va_up_self, va_up_ne, nI_add, pk_mul, nI_clamp, vp_inT, nI_ltI, nI_leI, nI_eqI, pk_sub, true_and, and_true]
    refine hK _ _ _ _ ?_
    refine rz_blk' [(.aload_n 0, 1, 0, 0), (.getfield 391, 3, 10, 68), (.ifCond .ne 17, 3, 0, 0)] (by decide +kernel) (Nat.le_refl _) (Nat.le_refl _) (fun K R hK hR => ?_)
    simp only [↓rx_aload_n0, ↓rx_getfield, ↓rx_ifCond_ne, ↓rx_nil, ↓ry_i1, ↓ry_lr0s, ↓ry_lr0z, ↓ry_obu, ↓ry_r1, ↓re_F68, ↓re_ob, g68, rz_set, rz_nol, rz_clr, List.set_cons_zero, List.set_cons_succ, rz_tr, Nat.reduceAdd, Int.reduceAdd, Int.reduceToNat, Int.reduceSub, Int.reduceNeg, Int.cast_ofNat_Int]
    try simp (disch := omega) only [g68, pk_us, pk_un, va_up_self, va_up_ne, nI_add, pk_mul, nI_clamp, vp_inT, nI_ltI, nI_leI, nI_eqI, pk_sub, true_and, and_true]
    refine ⟨fun q9 => by first | exact absurd rfl q9 | exact absurd trivial q9, fun q9 => hK _ _ _ _ ?_⟩
    refine rz_blk' [(.aload_n 0, 1, 0, 0), (.iconst 1, 1, 0, 0)] (by decide +kernel) (Nat.le_refl _) (Nat.le_refl _) (fun K R hK hR => ?_)
    simp only [rw_c1, ↓rx_aload_n0, ↓rx_iconst, ↓rx_nil, ↓ry_lr0s, ↓ry_lr0z, g68, rz_set, rz_nol, rz_clr, List.set_cons_zero, List.set_cons_succ, rz_tr, Nat.reduceAdd, Int.reduceAdd, Int.reduceToNat, Int.reduceSub, Int.reduceNeg, Int.cast_ofNat_Int]
    try simp (disch := omega) only [g68, pk_us, pk_un, va_up_self, va_up_ne, nI_add, pk_mul, nI_clamp, vp_inT, nI_ltI, nI_leI, nI_eqI, pk_sub, true_and, and_true]
    refine hK _ _ _ _ ?_
    refine rz_cV (As := [.int (nI 1)]) (b := a) (S := []) l_Mod_218 (by decide +kernel) rfl re_at0 rfl (Nat.le_of_ble_eq_true rfl) (Nat.le_refl _) (Nat.le_refl _) (c_Mod_fail _) (fun r G' hr => ?_)
    obtain ⟨rfl, rfl⟩ := hr
    simp only [Option.toList, List.cons_append, List.nil_append]
    refine rz_blk' [(.ifCond .le 7, 3, 0, 0)] (by decide +kernel) (Nat.le_refl _) (Nat.le_refl _) (fun K R hK hR => ?_)
    simp only [↓rx_ifCond_le, ↓rx_nil, ↓ry_i1, g68, rz_set, rz_nol, rz_clr, List.set_cons_zero, List.set_cons_succ, rz_tr, Nat.reduceAdd, Int.reduceAdd, Int.reduceToNat, Int.reduceSub, Int.reduceNeg, Int.cast_ofNat_Int]
    try simp (disch := omega) only [g68, pk_us, pk_un, va_up_self, va_up_ne, nI_add, pk_mul, nI_clamp, vp_inT, nI_ltI, nI_leI, nI_eqI, pk_sub, true_and, and_true]
    refine ⟨fun q10 => hK _ _ _ _ ?_, fun q10 => absurd q10 (by decide)⟩
    refine rz_blk' [(.iconst 0, 1, 0, 0), (.ireturn, 1, 0, 0)] (by decide +kernel) (Nat.le_refl _) (Nat.le_refl _) (fun K R hK hR => ?_)
    simp only [rw_c0, ↓rx_iconst, ↓rx_ireturn, ↓rx_nil, g68, rz_set, rz_nol, rz_clr, List.set_cons_zero, List.set_cons_succ, rz_tr, Nat.reduceAdd, Int.reduceAdd, Int.reduceToNat, Int.reduceSub, Int.reduceNeg, Int.cast_ofNat_Int]
    try simp (disch := omega) only [g68, pk_us, pk_un, va_up_self, va_up_ne, nI_add, pk_mul, nI_clamp, vp_inT, nI_ltI, nI_leI, nI_eqI, pk_sub, true_and, and_true]
    exact hR _ _ rz_nb_0 (by rw [← hQ]; refine ⟨⟨_, by first | rfl | assumption⟩, ?_⟩; exact rv_e (rf_0 h) 1 (by decide) (by decide) (Or.inl ⟨rfl, hn0⟩))
  have g68 : I 68 = 1 := by rw [g68, decide_eq_true (by omega)]; rfl
  have key1 := wi_m1 (x := x) (hi := n - 1) (by omega)
  refine rz_blk' [(.aload_n 0, 1, 0, 0), (.iconst 0, 1, 0, 0), (.putfield 206, 3, 10, 0)] (by decide +kernel) (Nat.le_refl _) (Nat.le_refl _) (fun K R hK hR => ?_)
  simp only [List.length_cons, List.length_nil, Nat.reduceLT, rf_10_0, rw_c0, ↓rx_aload_n0, ↓rx_iconst, ↓rx_nil, ↓rx_putfield, ↓ry_lr0s, ↓ry_lr0z, ↓ry_obu, ↓ry_vr, true_and, re_len, re_u0, ↓re_ob, g68, g67, rz_set, rz_nol, rz_clr, List.set_cons_zero, List.set_cons_succ, rz_tr, Nat.reduceAdd, Int.reduceAdd, Int.reduceToNat, Int.reduceSub, Int.reduceNeg, Int.cast_ofNat_Int]
  try simp (disch := omega) only [g68, g67, pk_us, pk_un, va_up_self, va_up_ne, nI_add, pk_mul, nI_clamp, vp_inT, nI_ltI, nI_leI, nI_eqI, pk_sub, true_and, and_true]
  refine hK _ _ _ _ ?_
  refine rz_blk' [(.aload_n 0, 1, 0, 0), (.getfield 391, 3, 10, 68), (.ifCond .ne 17, 3, 0, 0)] (by decide +kernel) (Nat.le_refl _) (Nat.le_refl _) (fun K R hK hR => ?_)
  simp only [↓rx_aload_n0, ↓rx_getfield, ↓rx_ifCond_ne, ↓rx_nil, ↓ry_i1, ↓ry_lr0s, ↓ry_lr0z, ↓ry_obu, ↓ry_r1, ↓re_F68, ↓re_ob, g68, g67, rz_set, rz_nol, rz_clr, List.set_cons_zero, List.set_cons_succ, rz_tr, Nat.reduceAdd, Int.reduceAdd, Int.reduceToNat, Int.reduceSub, Int.reduceNeg, Int.cast_ofNat_Int]
  try simp (disch := omega) only [g68, g67, pk_us, pk_un, va_up_self, va_up_ne, nI_add, pk_mul, nI_clamp, vp_inT, nI_ltI, nI_leI, nI_eqI, pk_sub, true_and, and_true]
  refine ⟨fun q11 => hK _ _ _ _ ?_, fun q11 => absurd q11 (by decide)⟩
  refine rz_blk' [(.iload_n 1, 1, 0, 0), (.iconst (-1), 1, 0, 0), (.aload_n 0, 1, 0, 0), (.getfield 388, 3, 10, 67), (.iconst 1, 1, 0, 0), (.isub, 1, 0, 0)] (by decide +kernel) (Nat.le_refl _) (Nat.le_refl _) (fun K R hK hR => ?_)
  simp only [rw_c1, rw_cm1, ↓rx_aload_n0, ↓rx_getfield, ↓rx_iconst, ↓rx_iload_n1, ↓rx_isub, ↓rx_nil, ↓ry_i2, ↓ry_li0s, ↓ry_li0z, ↓ry_lr0s, ↓ry_lr0z, ↓ry_obu, ↓ry_r1, ↓re_F67, ↓re_ob, g68, g67, rz_set, rz_nol, rz_clr, List.set_cons_zero, List.set_cons_succ, rz_tr, Nat.reduceAdd, Int.reduceAdd, Int.reduceToNat, Int.reduceSub, Int.reduceNeg, Int.cast_ofNat_Int]
  try simp (disch := omega) only [g68, g67, pk_us, pk_un, va_up_self, va_up_ne, nI_add, pk_mul, nI_clamp, vp_inT, nI_ltI, nI_leI, nI_eqI, pk_sub, true_and, and_true]
  refine hK _ _ _ _ ?_
  refine rz_cS (As := [.int x, .int (-1), .int (nI (n - 1))]) (S := []) l_Mod_210 (by decide +kernel) rfl (Nat.le_of_ble_eq_true rfl) (Nat.le_refl _) (Nat.le_refl _) (c_Mod_within _ _ _) (fun r G' hr => ?_)
  obtain ⟨rfl, hg⟩ := hr
  subst hg
  simp only [Option.toList, List.cons_append, List.nil_append]
  refine rz_blk' [(.ifCond .ne 17, 3, 0, 0)] (by decide +kernel) (Nat.le_refl _) (Nat.le_refl _) (fun K R hK hR => ?_)
  simp only [↓rx_ifCond_ne, ↓rx_nil, ↓ry_i1, g68, g67, rz_set, rz_nol, rz_clr, List.set_cons_zero, List.set_cons_succ, rz_tr, Nat.reduceAdd, Int.reduceAdd, Int.reduceToNat, Int.reduceSub, Int.reduceNeg, Int.cast_ofNat_Int]
  try simp (disch := omega) only [g68, g67, pk_us, pk_un, va_up_self, va_up_ne, nI_add, pk_mul, nI_clamp, vp_inT, nI_ltI, nI_leI, nI_eqI, pk_sub, true_and, and_true]
  rw [rz_b_0]
  refine ⟨fun q12 => hK _ _ _ _ ?_, fun q12 => hK _ _ _ _ ?_⟩
  · -- 37 taken
    refine rz_blk' [(.iload_n 1, 1, 0, 0), (.iconst (-1), 1, 0, 0), (.if_icmp .ne 41, 3, 0, 0)] (by decide +kernel) (Nat.le_refl _) (Nat.le_refl _) (fun K R hK hR => ?_)
    simp only [rw_cm1, ↓rx_iconst, ↓rx_if_icmp_ne, ↓rx_iload_n1, ↓rx_nil, ↓ry_i2, ↓ry_li0s, ↓ry_li0z, g68, g67, rz_set, rz_nol, rz_clr, List.set_cons_zero, List.set_cons_succ, rz_tr, Nat.reduceAdd, Int.reduceAdd, Int.reduceToNat, Int.reduceSub, Int.reduceNeg, Int.cast_ofNat_Int]
    try simp (disch := omega) only [g68, g67, pk_us, pk_un, va_up_self, va_up_ne, nI_add, pk_mul, nI_clamp, vp_inT, nI_ltI, nI_leI, nI_eqI, pk_sub, true_and, and_true]
    refine ⟨fun q13 => hK _ _ _ _ ?_, fun q13 => hK _ _ _ _ ?_⟩
    · -- 56 taken
      rcases key1.mp (by simpa using q12) with q | ⟨s, hs, e⟩
      · exact absurd q q13
      · exact hs1 hn0 s (by omega) e
    · -- 56 not taken
      exact hm1 hn0 q13
  · -- 37 not taken
    refine rz_blk' [(.aload_n 0, 1, 0, 0), (.iconst 2, 1, 0, 0)] (by decide +kernel) (Nat.le_refl _) (Nat.le_refl _) (fun K R hK hR => ?_)
    simp only [rw_c2, ↓rx_aload_n0, ↓rx_iconst, ↓rx_nil, ↓ry_lr0s, ↓ry_lr0z, g68, g67, rz_set, rz_nol, rz_clr, List.set_cons_zero, List.set_cons_succ, rz_tr, Nat.reduceAdd, Int.reduceAdd, Int.reduceToNat, Int.reduceSub, Int.reduceNeg, Int.cast_ofNat_Int]
    try simp (disch := omega) only [g68, g67, pk_us, pk_un, va_up_self, va_up_ne, nI_add, pk_mul, nI_clamp, vp_inT, nI_ltI, nI_leI, nI_eqI, pk_sub, true_and, and_true]
    refine hK _ _ _ _ ?_
    refine rz_cV (As := [.int (nI 2)]) (b := a) (S := []) l_Mod_218 (by decide +kernel) rfl re_at0 rfl (Nat.le_of_ble_eq_true rfl) (Nat.le_refl _) (Nat.le_refl _) (c_Mod_fail _) (fun r G' hr => ?_)
    obtain ⟨rfl, rfl⟩ := hr
    simp only [Option.toList, List.cons_append, List.nil_append]
    refine rz_blk' [(.ifCond .le 7, 3, 0, 0)] (by decide +kernel) (Nat.le_refl _) (Nat.le_refl _) (fun K R hK hR => ?_)
    simp only [↓rx_ifCond_le, ↓rx_nil, ↓ry_i1, g68, g67, rz_set, rz_nol, rz_clr, List.set_cons_zero, List.set_cons_succ, rz_tr, Nat.reduceAdd, Int.reduceAdd, Int.reduceToNat, Int.reduceSub, Int.reduceNeg, Int.cast_ofNat_Int]
    try simp (disch := omega) only [g68, g67, pk_us, pk_un, va_up_self, va_up_ne, nI_add, pk_mul, nI_clamp, vp_inT, nI_ltI, nI_leI, nI_eqI, pk_sub, true_and, and_true]
    refine ⟨fun q14 => hK _ _ _ _ ?_, fun q14 => absurd q14 (by decide)⟩
    refine rz_blk' [(.iconst 0, 1, 0, 0), (.ireturn, 1, 0, 0)] (by decide +kernel) (Nat.le_refl _) (Nat.le_refl _) (fun K R hK hR => ?_)
    simp only [rw_c0, ↓rx_iconst, ↓rx_ireturn, ↓rx_nil, g68, g67, rz_set, rz_nol, rz_clr, List.set_cons_zero, List.set_cons_succ, rz_tr, Nat.reduceAdd, Int.reduceAdd, Int.reduceToNat, Int.reduceSub, Int.reduceNeg, Int.cast_ofNat_Int]
    try simp (disch := omega) only [g68, g67, pk_us, pk_un, va_up_self, va_up_ne, nI_add, pk_mul, nI_clamp, vp_inT, nI_ltI, nI_leI, nI_eqI, pk_sub, true_and, and_true]
    refine hR _ _ rz_nb_0 ?_
    rw [← hQ]; refine ⟨⟨_, by first | rfl | assumption⟩, ?_⟩
    refine rv_e (rf_0 h) 2 (by decide) (by decide) (Or.inr ⟨rfl, hn0, fun e => ?_, fun s hs e => ?_⟩)
    · rw [key1.mpr (Or.inl e)] at q12
      cases q12
    · skip
      rw [key1.mpr (Or.inr ⟨s, by omega, e⟩)] at q12
      cases q12
set_option maxRecDepth 100000 in
set_option maxHeartbeats 4000000 in
theorem cr_Mod_sign {w : rz_w} {d : Nat} {G : rz_G} {a : Nat} {I : Nat → Int32} {A : Nat → Nat → Int32} {V : dk_V} (h : rf I A V) (x : Int32) : rz_C w (d + 2) 0 0 y_Mod_sign m_Mod_sign [.ref a, .int x] (re_put G a I A) (fun (r : Option Value) (G' : rz_G) => (∃ v, r = some (.int v)) ∧ (rv G a V (fun r V' => V' = V ∧ ∃ (j : Nat) (hj : j < V.2.1.length), x = nI j ∧ r = some (.int (nI V.2.1[j]))) (fun c => c = 1 ∧ ∀ j, j < V.2.1.length → x ≠ nI j)) r G') := by
  generalize hQ : (fun (r : Option Value) (G' : rz_G) => (∃ v, r = some (.int v)) ∧ (rv G a V (fun r V' => V' = V ∧ ∃ (j : Nat) (hj : j < V.2.1.length), x = nI j ∧ r = some (.int (nI V.2.1[j]))) (fun c => c = 1 ∧ ∀ j, j < V.2.1.length → x ≠ nI j)) r G') = Q
  obtain ⟨g12, g13, g4⟩ := id h.2.1
  have hbad : (∀ j, j < V.2.1.length → x ≠ nI j) → Q (some (.int (nI 0))) (re_put G a (upd (upd I 0 (nI 0)) 0 (nI 1)) A) := by
    intro hno
    rw [← hQ]; refine ⟨⟨_, by first | rfl | assumption⟩, ?_⟩
    exact rv_e (rf_0 h) 1 (by decide) (by decide) ⟨rfl, hno⟩
  by_cases hn0 : V.2.1.length = 0
  · rw [hn0] at g12
    have hsub : nI 0 - nI 1 = -1 := by decide
    have hw : (decide (nI 0 ≤ x) && decide (x ≤ -1)) = false := by
      rw [Bool.and_eq_false_iff]
      by_cases c : nI 0 ≤ x
      · right
        refine decide_eq_false (fun q => ?_)
        have := Int32.le_trans c q
        exact absurd this (by decide)
      · left; exact decide_eq_false c
    refine rz_enter' [some (.ref a), some (.int x)] (by decide +kernel) rfl rfl (Nat.le_of_ble_eq_true rfl) rfl ?_
    refine rz_blk' [(.aload_n 0, 1, 0, 0), (.iconst 0, 1, 0, 0), (.putfield 206, 3, 10, 0)] (by decide +kernel) (Nat.le_refl _) (Nat.le_refl _) (fun K R hK hR => ?_)
    simp only [List.length_cons, List.length_nil, Nat.reduceLT, rf_10_0, rw_c0, ↓rx_aload_n0, ↓rx_iconst, ↓rx_nil, ↓rx_putfield, ↓ry_lr0s, ↓ry_lr0z, ↓ry_obu, ↓ry_vr, true_and, re_len, re_u0, ↓re_ob, g12, hsub, rz_set, rz_nol, rz_clr, List.set_cons_zero, List.set_cons_succ, rz_tr, Nat.reduceAdd, Int.reduceAdd, Int.reduceToNat, Int.reduceSub, Int.reduceNeg, Int.cast_ofNat_Int]
    try simp (disch := omega) only [g12, hsub, hw, pk_us, pk_un, va_up_self, va_up_ne, nI_add, pk_mul, nI_clamp, vp_inT, nI_ltI, nI_leI, nI_eqI, pk_sub, true_and, and_true]
    refine hK _ _ _ _ ?_
    refine rz_blk' [(.iload_n 1, 1, 0, 0), (.iconst 0, 1, 0, 0), (.aload_n 0, 1, 0, 0), (.getfield 246, 3, 10, 12), (.iconst 1, 1, 0, 0), (.isub, 1, 0, 0)] (by decide +kernel) (Nat.le_refl _) (Nat.le_refl _) (fun K R hK hR => ?_)
    simp only [rw_c0, rw_c1, ↓rx_aload_n0, ↓rx_getfield, ↓rx_iconst, ↓rx_iload_n1, ↓rx_isub, ↓rx_nil, ↓ry_i2, ↓ry_li0s, ↓ry_li0z, ↓ry_lr0s, ↓ry_lr0z, ↓ry_obu, ↓ry_r1, ↓re_F12, ↓re_ob, g12, hsub, rz_set, rz_nol, rz_clr, List.set_cons_zero, List.set_cons_succ, rz_tr, Nat.reduceAdd, Int.reduceAdd, Int.reduceToNat, Int.reduceSub, Int.reduceNeg, Int.cast_ofNat_Int]
    try simp (disch := omega) only [g12, hsub, hw, pk_us, pk_un, va_up_self, va_up_ne, nI_add, pk_mul, nI_clamp, vp_inT, nI_ltI, nI_leI, nI_eqI, pk_sub, true_and, and_true]
    refine hK _ _ _ _ ?_
    refine rz_cS (As := [.int x, .int (nI 0), .int (-1)]) (S := []) l_Mod_210 (by decide +kernel) rfl (Nat.le_of_ble_eq_true rfl) (Nat.le_refl _) (Nat.le_refl _) (c_Mod_within _ _ _) (fun r G' hr => ?_)
    obtain ⟨rfl, hg⟩ := hr
    subst hg
    simp only [Option.toList, List.cons_append, List.nil_append]
    refine rz_blk' [(.ifCond .eq 12, 3, 0, 0)] (by decide +kernel) (Nat.le_refl _) (Nat.le_refl _) (fun K R hK hR => ?_)
    simp only [↓rx_ifCond_eq, ↓rx_nil, ↓ry_i1, g12, hsub, rz_set, rz_nol, rz_clr, List.set_cons_zero, List.set_cons_succ, rz_tr, Nat.reduceAdd, Int.reduceAdd, Int.reduceToNat, Int.reduceSub, Int.reduceNeg, Int.cast_ofNat_Int]
    try simp (disch := omega) only [g12, hsub, hw, pk_us, pk_un, va_up_self, va_up_ne, nI_add, pk_mul, nI_clamp, vp_inT, nI_ltI, nI_leI, nI_eqI, pk_sub, true_and, and_true]
    refine ⟨fun q1 => hK _ _ _ _ ?_, fun q1 => by first | exact absurd rfl q1 | exact absurd trivial q1⟩
    refine rz_blk' [(.aload_n 0, 1, 0, 0), (.iconst 1, 1, 0, 0)] (by decide +kernel) (Nat.le_refl _) (Nat.le_refl _) (fun K R hK hR => ?_)
    simp only [rw_c1, ↓rx_aload_n0, ↓rx_iconst, ↓rx_nil, ↓ry_lr0s, ↓ry_lr0z, g12, hsub, rz_set, rz_nol, rz_clr, List.set_cons_zero, List.set_cons_succ, rz_tr, Nat.reduceAdd, Int.reduceAdd, Int.reduceToNat, Int.reduceSub, Int.reduceNeg, Int.cast_ofNat_Int]
    try simp (disch := omega) only [g12, hsub, hw, pk_us, pk_un, va_up_self, va_up_ne, nI_add, pk_mul, nI_clamp, vp_inT, nI_ltI, nI_leI, nI_eqI, pk_sub, true_and, and_true]
    refine hK _ _ _ _ ?_
    refine rz_cV (As := [.int (nI 1)]) (b := a) (S := []) l_Mod_218 (by decide +kernel) rfl re_at0 rfl (Nat.le_of_ble_eq_true rfl) (Nat.le_refl _) (Nat.le_refl _) (c_Mod_fail _) (fun r G' hr => ?_)
    obtain ⟨rfl, rfl⟩ := hr
    simp only [Option.toList, List.cons_append, List.nil_append]
    refine rz_blk' [(.ireturn, 1, 0, 0)] (by decide +kernel) (Nat.le_refl _) (Nat.le_refl _) (fun K R hK hR => ?_)
    simp only [↓rx_ireturn, ↓rx_nil, g12, hsub, rz_set, rz_nol, rz_clr, List.set_cons_zero, List.set_cons_succ, rz_tr, Nat.reduceAdd, Int.reduceAdd, Int.reduceToNat, Int.reduceSub, Int.reduceNeg, Int.cast_ofNat_Int]
    try simp (disch := omega) only [g12, hsub, hw, pk_us, pk_un, va_up_self, va_up_ne, nI_add, pk_mul, nI_clamp, vp_inT, nI_ltI, nI_leI, nI_eqI, pk_sub, true_and, and_true]
    first
      | exact hR _ _ (rz_nb_i (by decide)) (hbad (fun j hj => by omega))
      | exact absurd rfl q1
  have key := wi_iff (x := x) (lo := 0) (hi := V.2.1.length - 1) (by decide) (by omega)
  refine rz_enter' [some (.ref a), some (.int x)] (by decide +kernel) rfl rfl (Nat.le_of_ble_eq_true rfl) rfl ?_
  refine rz_blk' [(.aload_n 0, 1, 0, 0), (.iconst 0, 1, 0, 0), (.putfield 206, 3, 10, 0)] (by decide +kernel) (Nat.le_refl _) (Nat.le_refl _) (fun K R hK hR => ?_)
  simp only [List.length_cons, List.length_nil, Nat.reduceLT, rf_10_0, rw_c0, ↓rx_aload_n0, ↓rx_iconst, ↓rx_nil, ↓rx_putfield, ↓ry_lr0s, ↓ry_lr0z, ↓ry_obu, ↓ry_vr, true_and, re_len, re_u0, ↓re_ob, g12, rz_set, rz_nol, rz_clr, List.set_cons_zero, List.set_cons_succ, rz_tr, Nat.reduceAdd, Int.reduceAdd, Int.reduceToNat, Int.reduceSub, Int.reduceNeg, Int.cast_ofNat_Int]
  try simp (disch := omega) only [g12, pk_us, pk_un, va_up_self, va_up_ne, nI_add, pk_mul, nI_clamp, vp_inT, nI_ltI, nI_leI, nI_eqI, pk_sub, true_and, and_true]
  refine hK _ _ _ _ ?_
  refine rz_blk' [(.iload_n 1, 1, 0, 0), (.iconst 0, 1, 0, 0), (.aload_n 0, 1, 0, 0), (.getfield 246, 3, 10, 12), (.iconst 1, 1, 0, 0), (.isub, 1, 0, 0)] (by decide +kernel) (Nat.le_refl _) (Nat.le_refl _) (fun K R hK hR => ?_)
  simp only [rw_c0, rw_c1, ↓rx_aload_n0, ↓rx_getfield, ↓rx_iconst, ↓rx_iload_n1, ↓rx_isub, ↓rx_nil, ↓ry_i2, ↓ry_li0s, ↓ry_li0z, ↓ry_lr0s, ↓ry_lr0z, ↓ry_obu, ↓ry_r1, ↓re_F12, ↓re_ob, g12, rz_set, rz_nol, rz_clr, List.set_cons_zero, List.set_cons_succ, rz_tr, Nat.reduceAdd, Int.reduceAdd, Int.reduceToNat, Int.reduceSub, Int.reduceNeg, Int.cast_ofNat_Int]
  try simp (disch := omega) only [g12, pk_us, pk_un, va_up_self, va_up_ne, nI_add, pk_mul, nI_clamp, vp_inT, nI_ltI, nI_leI, nI_eqI, pk_sub, true_and, and_true]
  refine hK _ _ _ _ ?_
  refine rz_cS (As := [.int x, .int (nI 0), .int (nI (V.2.1.length - 1))]) (S := []) l_Mod_210 (by decide +kernel) rfl (Nat.le_of_ble_eq_true rfl) (Nat.le_refl _) (Nat.le_refl _) (c_Mod_within _ _ _) (fun r G' hr => ?_)
  obtain ⟨rfl, hg⟩ := hr
  subst hg
  simp only [Option.toList, List.cons_append, List.nil_append]
  refine rz_blk' [(.ifCond .eq 12, 3, 0, 0)] (by decide +kernel) (Nat.le_refl _) (Nat.le_refl _) (fun K R hK hR => ?_)
  simp only [↓rx_ifCond_eq, ↓rx_nil, ↓ry_i1, g12, rz_set, rz_nol, rz_clr, List.set_cons_zero, List.set_cons_succ, rz_tr, Nat.reduceAdd, Int.reduceAdd, Int.reduceToNat, Int.reduceSub, Int.reduceNeg, Int.cast_ofNat_Int]
  try simp (disch := omega) only [g12, pk_us, pk_un, va_up_self, va_up_ne, nI_add, pk_mul, nI_clamp, vp_inT, nI_ltI, nI_leI, nI_eqI, pk_sub, true_and, and_true]
  rw [rz_b_0]
  refine ⟨fun q2 => hK _ _ _ _ ?_, fun q2 => hK _ _ _ _ ?_⟩
  · -- 16 taken
    refine rz_blk' [(.aload_n 0, 1, 0, 0), (.iconst 1, 1, 0, 0)] (by decide +kernel) (Nat.le_refl _) (Nat.le_refl _) (fun K R hK hR => ?_)
    simp only [rw_c1, ↓rx_aload_n0, ↓rx_iconst, ↓rx_nil, ↓ry_lr0s, ↓ry_lr0z, g12, rz_set, rz_nol, rz_clr, List.set_cons_zero, List.set_cons_succ, rz_tr, Nat.reduceAdd, Int.reduceAdd, Int.reduceToNat, Int.reduceSub, Int.reduceNeg, Int.cast_ofNat_Int]
    try simp (disch := omega) only [g12, pk_us, pk_un, va_up_self, va_up_ne, nI_add, pk_mul, nI_clamp, vp_inT, nI_ltI, nI_leI, nI_eqI, pk_sub, true_and, and_true]
    refine hK _ _ _ _ ?_
    refine rz_cV (As := [.int (nI 1)]) (b := a) (S := []) l_Mod_218 (by decide +kernel) rfl re_at0 rfl (Nat.le_of_ble_eq_true rfl) (Nat.le_refl _) (Nat.le_refl _) (c_Mod_fail _) (fun r G' hr => ?_)
    obtain ⟨rfl, rfl⟩ := hr
    simp only [Option.toList, List.cons_append, List.nil_append]
    refine rz_blk' [(.ireturn, 1, 0, 0)] (by decide +kernel) (Nat.le_refl _) (Nat.le_refl _) (fun K R hK hR => ?_)
    simp only [↓rx_ireturn, ↓rx_nil, g12, rz_set, rz_nol, rz_clr, List.set_cons_zero, List.set_cons_succ, rz_tr, Nat.reduceAdd, Int.reduceAdd, Int.reduceToNat, Int.reduceSub, Int.reduceNeg, Int.cast_ofNat_Int]
    try simp (disch := omega) only [g12, pk_us, pk_un, va_up_self, va_up_ne, nI_add, pk_mul, nI_clamp, vp_inT, nI_ltI, nI_leI, nI_eqI, pk_sub, true_and, and_true]
    refine hR _ _ (rz_nb_i (by decide)) (hbad (fun j hj e => ?_))
    rw [key.mpr ⟨j, Nat.zero_le _, by omega, e⟩] at q2
    cases q2
  · -- 16 not taken
    obtain ⟨j, -, hj, rfl⟩ := key.mp (by simpa using q2)
    have hj2 : j < V.2.1.length := by omega
    have e1 := g13 j hj2
    rw [Nat.zero_add] at e1
    refine rz_blk' [(.aload_n 0, 1, 0, 0), (.getfield 43, 3, 10, 13), (.iload_n 1, 1, 0, 0), (.iaload, 1, 0, 0), (.goto 8, 3, 0, 0)] (by decide +kernel) (Nat.le_refl _) (Nat.le_refl _) (fun K R hK hR => ?_)
    simp only [↓rx_aload_n0, ↓rx_getfield, ↓rx_goto, ↓rx_iaload, ↓rx_iload_n1, ↓rx_nil, ↓ry_iau, ↓ry_li0s, ↓ry_li0z, ↓ry_lr0s, ↓ry_lr0z, ↓ry_obu, ↓ry_r1, ↓ry_ri, true_and, re_a13, ↓re_F13, ↓re_i13, ↓re_ob, e1, rz_set, rz_nol, rz_clr, List.set_cons_zero, List.set_cons_succ, rz_tr, Nat.reduceAdd, Int.reduceAdd, Int.reduceToNat, Int.reduceSub, Int.reduceNeg, Int.cast_ofNat_Int]
    try simp (disch := omega) only [e1, pk_us, pk_un, va_up_self, va_up_ne, nI_add, pk_mul, nI_clamp, vp_inT, nI_ltI, nI_leI, nI_eqI, pk_sub, true_and, and_true]
    refine hK _ _ _ _ ?_
    refine rz_blk' [(.ireturn, 1, 0, 0)] (by decide +kernel) (Nat.le_refl _) (Nat.le_refl _) (fun K R hK hR => ?_)
    simp only [↓rx_ireturn, ↓rx_nil, e1, rz_set, rz_nol, rz_clr, List.set_cons_zero, List.set_cons_succ, rz_tr, Nat.reduceAdd, Int.reduceAdd, Int.reduceToNat, Int.reduceSub, Int.reduceNeg, Int.cast_ofNat_Int]
    try simp (disch := omega) only [e1, pk_us, pk_un, va_up_self, va_up_ne, nI_add, pk_mul, nI_clamp, vp_inT, nI_ltI, nI_leI, nI_eqI, pk_sub, true_and, and_true]
    refine hR _ _ (rz_nb_i (by decide)) ?_
    rw [← hQ]; refine ⟨⟨_, by first | rfl | assumption⟩, ?_⟩
    exact rv_f pk_us (rf_0 h) ⟨rfl, j, hj2, rfl, rfl⟩
