/-! the reference: edge, last, first -/
/-- a call's end: it answers (f), or it has failed with a code (e) and nothing has changed -/
def rv (G : rz_G) (a : Nat) (V : dk_V) (f : Option Value → dk_V → Prop) (e : Nat → Prop) : Option Value → rz_G → Prop := fun r G' => ∃ I' A', G' = re_put G a I' A' ∧ ((I' 0 = nI 0 ∧ ∃ V', rf I' A' V' ∧ f r V') ∨ (rf I' A' V ∧ ∃ c, I' 0 = nI c ∧ c < 4 ∧ c ≠ 0 ∧ e c))
theorem rv_e {G : rz_G} {a : Nat} {V : dk_V} {f : Option Value → dk_V → Prop} {e : Nat → Prop} {r : Option Value} {I : Nat → Int32} {A : Nat → Nat → Int32} (h : rf I A V) (c : Nat) (hc : c < 4) (hc0 : c ≠ 0) (he : e c) : rv G a V f e r (re_put G a (upd I 0 (nI c)) A) := ⟨_, _, rfl, Or.inr ⟨rf_0 h, c, pk_us, hc, hc0, he⟩⟩
theorem rv_f {G : rz_G} {a : Nat} {V V' : dk_V} {f : Option Value → dk_V → Prop} {e : Nat → Prop} {r : Option Value} {I : Nat → Int32} {A : Nat → Nat → Int32} (h0 : I 0 = nI 0) (h : rf I A V') (he : f r V') : rv G a V f e r (re_put G a I A) := ⟨_, _, rfl, Or.inl ⟨h0, V', h, he⟩⟩
theorem sg_told {g : Nat → Int32} {s n : Nat} {u : Int32} (hn : n ≤ 3) (h : ∀ q, q < 3 → g (s + q) = nI (u.toBitVec.toNat / 2 ^ (3 * q) % 8)) : sg g s (wd_told u.toBitVec.toNat n) := fun k hk => by
  rw [wd_told_len] at hk
  rw [h k (by omega)]
  simp [wd_told]
set_option maxRecDepth 100000 in
set_option maxHeartbeats 400000 in
theorem c_Mod_first {w : rz_w} {d : Nat} {G : rz_G} {a : Nat} {I : Nat → Int32} {A : Nat → Nat → Int32} {V : dk_V} (h : rf I A V) (x y u : Int32) : rz_C w (d + 3) 0 0 y_Mod_first m_Mod_first [.ref a, .int x, .int y, .int u] (re_put G a I A) (rv G a V (fun r V' => ∃ k n, k < 6 ∧ n ≤ 3 ∧ x = nI k ∧ y = nI n ∧ V' = dk_um V k ((V.1 k).1, (V.1 k).2.1, (V.1 k).2.2.1, wd_told u.toBitVec.toNat n)) (fun c => (c = 1 ∧ dk_no x) ∨ (c = 2 ∧ ¬ dk_no x ∧ ∀ n, n ≤ 3 → y ≠ nI n))) := by
  generalize hQ : (rv G a V (fun r V' => ∃ k n, k < 6 ∧ n ≤ 3 ∧ x = nI k ∧ y = nI n ∧ V' = dk_um V k ((V.1 k).1, (V.1 k).2.1, (V.1 k).2.2.1, wd_told u.toBitVec.toNat n)) (fun c => (c = 1 ∧ dk_no x) ∨ (c = 2 ∧ ¬ dk_no x ∧ ∀ n, n ≤ 3 → y ≠ nI n))) = Q
  refine rz_enter' [some (.ref a), some (.int x), some (.int y), some (.int u), none] (by decide +kernel) rfl rfl (Nat.le_of_ble_eq_true rfl) rfl ?_
  refine rz_blk' [(.aload_n 0, 1, 0, 0), (.iload_n 1, 1, 0, 0)] (by decide +kernel) (Nat.le_refl _) (Nat.le_refl _) (fun K R hK hR => ?_)
  simp only [↓rx_aload_n0, ↓rx_iload_n1, ↓rx_nil, ↓ry_li0s, ↓ry_li0z, ↓ry_lr0s, ↓ry_lr0z, rz_set, rz_nol, rz_clr, List.set_cons_zero, List.set_cons_succ, rz_tr, Nat.reduceAdd, Int.reduceAdd, Int.reduceToNat, Int.reduceSub, Int.reduceNeg, Int.cast_ofNat_Int]
  try simp (disch := omega) only [pk_us, pk_un, va_up_self, va_up_ne, nI_add, pk_mul, nI_clamp, vp_inT, nI_ltI, nI_leI, nI_eqI, pk_sub, true_and, and_true]
  refine hK _ _ _ _ ?_
  refine rz_cV (As := [.int x]) (b := a) (S := []) l_Mod_214 (by decide +kernel) rfl re_at0 rfl (Nat.le_of_ble_eq_true rfl) (Nat.le_refl _) (Nat.le_refl _) (c_Mod_isMachine _) (fun r G' hr => ?_)
  rcases hr with ⟨k, hk, rfl, rfl, hg⟩ | ⟨hno, rfl, hg⟩
  rotate_left
  · subst hg
    simp only [Option.toList, List.cons_append, List.nil_append]
    refine rz_blk' [(.ifCond .ne 4, 3, 0, 0)] (by decide +kernel) (Nat.le_refl _) (Nat.le_refl _) (fun K R hK hR => ?_)
    simp only [↓rx_ifCond_ne, ↓rx_nil, ↓ry_i1, rz_set, rz_nol, rz_clr, List.set_cons_zero, List.set_cons_succ, rz_tr, Nat.reduceAdd, Int.reduceAdd, Int.reduceToNat, Int.reduceSub, Int.reduceNeg, Int.cast_ofNat_Int]
    try simp (disch := omega) only [pk_us, pk_un, va_up_self, va_up_ne, nI_add, pk_mul, nI_clamp, vp_inT, nI_ltI, nI_leI, nI_eqI, pk_sub, true_and, and_true]
    refine ⟨fun q1 => absurd rfl q1, fun q1 => hK _ _ _ _ ?_⟩
    refine rz_blk' [(.return_, 1, 0, 0)] (by decide +kernel) (Nat.le_refl _) (Nat.le_refl _) (fun K R hK hR => ?_)
    simp only [↓rx_nil, ↓rx_return_, rz_set, rz_nol, rz_clr, List.set_cons_zero, List.set_cons_succ, rz_tr, Nat.reduceAdd, Int.reduceAdd, Int.reduceToNat, Int.reduceSub, Int.reduceNeg, Int.cast_ofNat_Int]
    try simp (disch := omega) only [pk_us, pk_un, va_up_self, va_up_ne, nI_add, pk_mul, nI_clamp, vp_inT, nI_ltI, nI_leI, nI_eqI, pk_sub, true_and, and_true]
    exact hR _ _ (rz_nb_i (by decide)) (by rw [← hQ]; exact rv_e h 1 (by decide) (by decide) (Or.inl ⟨rfl, hno⟩))
  subst hg
  simp only [Option.toList, List.cons_append, List.nil_append]
  have hnk : ¬ dk_no (nI k) := fun q => q k hk rfl
  have hm := h.1 k hk
  obtain ⟨m1, m2, m3, m4, m5, m6, m7, m8, m9, m10, m11⟩ := id hm
  have key := wi_iff (x := y) (lo := 0) (hi := 3) (by decide) (by decide)
  have hgo : ∀ n, n ≤ 3 → y = nI n → rz_T w (d + 3) 0 0 m_Mod_first 0 0 24 [some (.ref a), some (.int (nI k)), some (.int (nI n)), some (.int u), none] [] (re_put G a (upd I 0 (nI 0)) A) Q := by
    intro n hn3 hy
    refine rz_blk' [(.aload_n 0, 1, 0, 0), (.getfield 37, 3, 10, 10), (.iload_n 1, 1, 0, 0), (.iload_n 2, 1, 0, 0), (.iastore, 1, 0, 0)] (by decide +kernel) (Nat.le_refl _) (Nat.le_refl _) (fun K R hK hR => ?_)
    simp only [↓rx_aload_n0, ↓rx_getfield, ↓rx_iastore, ↓rx_iload_n1, ↓rx_iload_n2, ↓rx_nil, ↓ry_iau, ↓ry_li0s, ↓ry_li0z, ↓ry_lr0s, ↓ry_lr0z, ↓ry_obu, ↓ry_r1, ↓ry_rii, true_and, re_a10, ↓re_F10, ↓re_i10, ↓re_ob, rz_set, rz_nol, rz_clr, List.set_cons_zero, List.set_cons_succ, rz_tr, Nat.reduceAdd, Int.reduceAdd, Int.reduceToNat, Int.reduceSub, Int.reduceNeg, Int.cast_ofNat_Int]
    try simp (disch := omega) only [pk_us, pk_un, va_up_self, va_up_ne, nI_add, pk_mul, nI_clamp, vp_inT, nI_ltI, nI_leI, nI_eqI, pk_sub, true_and, and_true]
    refine hK _ _ _ _ ?_
    refine rz_blk' [(.iconst 0, 1, 0, 0), (.istore 4, 2, 0, 0)] (by decide +kernel) (Nat.le_refl _) (Nat.le_refl _) (fun K R hK hR => ?_)
    simp only [rw_c0, ↓rx_iconst, ↓rx_istore, ↓rx_nil, ↓ry_i1, rz_set, rz_nol, rz_clr, List.set_cons_zero, List.set_cons_succ, rz_tr, Nat.reduceAdd, Int.reduceAdd, Int.reduceToNat, Int.reduceSub, Int.reduceNeg, Int.cast_ofNat_Int]
    try simp (disch := omega) only [pk_us, pk_un, va_up_self, va_up_ne, nI_add, pk_mul, nI_clamp, vp_inT, nI_ltI, nI_leI, nI_eqI, pk_sub, true_and, and_true]
    refine hK _ _ _ _ ?_
    generalize hB : va_up A 10 _ = B
    have lp : ∀ (j i : Nat) (A1 : Nat → Nat → Int32), i + j = 3 → (∀ f, f ≠ 11 → A1 f = B f) → (∀ x, (x < 3 * k ∨ 3 * k + i ≤ x) → A1 11 x = B 11 x) → (∀ q, q < i → A1 11 (3 * k + q) = nI (u.toBitVec.toNat / 2 ^ (3 * q) % 8)) → rz_T w (d + 3) 0 0 m_Mod_first 0 0 34 [some (.ref a), some (.int (nI k)), some (.int (nI n)), some (.int u), some (.int (nI i))] [] (re_put G a (upd I 0 (nI 0)) A1) Q := by
      intro j
      induction j with
      | zero =>
        intro i A1 hij hf hx hs
        have hi : i = 3 := by omega
        subst hi
        refine rz_blk' [(.iload 4, 2, 0, 0), (.iconst 3, 1, 0, 0), (.if_icmp .ge 29, 3, 0, 0)] (by decide +kernel) (Nat.le_refl _) (Nat.le_refl _) (fun K R hK hR => ?_)
        simp only [rw_c3, ↓rx_iconst, ↓rx_if_icmp_ge, ↓rx_iload, ↓rx_nil, ↓ry_i2, ↓ry_li0s, ↓ry_li0z, rz_set, rz_nol, rz_clr, List.set_cons_zero, List.set_cons_succ, rz_tr, Nat.reduceAdd, Int.reduceAdd, Int.reduceToNat, Int.reduceSub, Int.reduceNeg, Int.cast_ofNat_Int]
        try simp (disch := omega) only [pk_us, pk_un, va_up_self, va_up_ne, nI_add, pk_mul, nI_clamp, vp_inT, nI_ltI, nI_leI, nI_eqI, pk_sub, true_and, and_true]
        refine ⟨fun q31 => hK _ _ _ _ ?_, fun q31 => by omega⟩
        refine rz_blk' [(.return_, 1, 0, 0)] (by decide +kernel) (Nat.le_refl _) (Nat.le_refl _) (fun K R hK hR => ?_)
        simp only [↓rx_nil, ↓rx_return_, rz_set, rz_nol, rz_clr, List.set_cons_zero, List.set_cons_succ, rz_tr, Nat.reduceAdd, Int.reduceAdd, Int.reduceToNat, Int.reduceSub, Int.reduceNeg, Int.cast_ofNat_Int]
        try simp (disch := omega) only [pk_us, pk_un, va_up_self, va_up_ne, nI_add, pk_mul, nI_clamp, vp_inT, nI_ltI, nI_leI, nI_eqI, pk_sub, true_and, and_true]
        refine hR _ _ (rz_nb_i (by decide)) ?_
        rw [← hQ]
        refine rv_f pk_us (rf_um h (k := k) (m := ((V.1 k).1, (V.1 k).2.1, (V.1 k).2.2.1, wd_told u.toBitVec.toNat n)) (fun j hj => pk_un hj) (fun f x ho => ?_) ⟨?_, m2, m3, ?_, m5, fun e he => ?_, fun q hq => ?_, m8, ?_, sg_told hn3 hs, m11.1, m11.2.1, (by show (wd_told _ _).length ≤ 3; rw [wd_told_len]; exact hn3), wd_told_8 _ _⟩) ⟨k, n, hk, hn3, rfl, hy, rfl⟩
        · by_cases c : f = 11
          · subst c; rw [hx x (by unfold re_own at ho; omega), ← hB, va_up_ne _ _ (by decide)]
          · rw [hf f c, ← hB]
            by_cases c2 : f = 10
            · subst c2; rw [va_up_self, pk_un (by unfold re_own at ho; omega)]
            · rw [va_up_ne _ _ c2]
        · rw [hf 1 (by decide), ← hB, va_up_ne _ _ (by decide)]; exact m1
        · rw [hf 2 (by decide), ← hB, va_up_ne _ _ (by decide)]; exact m4
        · rw [hf 3 (by decide), hf 4 (by decide), hf 5 (by decide), hf 6 (by decide), hf 7 (by decide), ← hB]
          exact m6 e he
        · rw [hf 8 (by decide), hf 9 (by decide), ← hB]
          exact m7 q hq
        · rw [hf 10 (by decide), ← hB, va_up_self, pk_us]
          show nI n = nI (wd_told _ _).length
          rw [wd_told_len]
      | succ j ih =>
        intro i A1 hij hf hx hs
        refine rz_blk' [(.iload 4, 2, 0, 0), (.iconst 3, 1, 0, 0), (.if_icmp .ge 29, 3, 0, 0)] (by decide +kernel) (Nat.le_refl _) (Nat.le_refl _) (fun K R hK hR => ?_)
        simp only [rw_c3, ↓rx_iconst, ↓rx_if_icmp_ge, ↓rx_iload, ↓rx_nil, ↓ry_i2, ↓ry_li0s, ↓ry_li0z, rz_set, rz_nol, rz_clr, List.set_cons_zero, List.set_cons_succ, rz_tr, Nat.reduceAdd, Int.reduceAdd, Int.reduceToNat, Int.reduceSub, Int.reduceNeg, Int.cast_ofNat_Int]
        try simp (disch := omega) only [re_sh, pk_us, pk_un, va_up_self, va_up_ne, nI_add, pk_mul, nI_clamp, vp_inT, nI_ltI, nI_leI, nI_eqI, pk_sub, true_and, and_true]
        refine ⟨fun q32 => by omega, fun q32 => hK _ _ _ _ ?_⟩
        refine rz_blk' [(.aload_n 0, 1, 0, 0), (.getfield 40, 3, 10, 11), (.iconst 3, 1, 0, 0), (.iload_n 1, 1, 0, 0), (.imul, 1, 0, 0), (.iload 4, 2, 0, 0), (.iadd, 1, 0, 0), (.iload_n 3, 1, 0, 0), (.iconst 3, 1, 0, 0), (.iload 4, 2, 0, 0), (.imul, 1, 0, 0), (.ishr, 1, 0, 0), (.bipush 7, 2, 0, 0), (.iand, 1, 0, 0), (.iastore, 1, 0, 0)] (by decide +kernel) (Nat.le_refl _) (Nat.le_refl _) (fun K R hK hR => ?_)
        simp only [rw_b7, rw_c3, ↓rx_aload_n0, ↓rx_bipush, ↓rx_getfield, ↓rx_iadd, ↓rx_iand, ↓rx_iastore, ↓rx_iconst, ↓rx_iload, ↓rx_iload_n1, ↓rx_iload_n3, ↓rx_imul, ↓rx_ishr, ↓rx_nil, ↓ry_i2, ↓ry_iau, ↓ry_li0s, ↓ry_li0z, ↓ry_lr0s, ↓ry_lr0z, ↓ry_obu, ↓ry_r1, ↓ry_rii, true_and, re_a11, ↓re_F11, ↓re_i11, ↓re_ob, rz_set, rz_nol, rz_clr, List.set_cons_zero, List.set_cons_succ, rz_tr, Nat.reduceAdd, Int.reduceAdd, Int.reduceToNat, Int.reduceSub, Int.reduceNeg, Int.cast_ofNat_Int]
        try simp (disch := omega) only [re_sh, pk_us, pk_un, va_up_self, va_up_ne, nI_add, pk_mul, nI_clamp, vp_inT, nI_ltI, nI_leI, nI_eqI, pk_sub, true_and, and_true]
        refine hK _ _ _ _ ?_
        refine rz_blk' [(.iinc 4 1, 3, 0, 0)] (by decide +kernel) (Nat.le_refl _) (Nat.le_refl _) (fun K R hK hR => ?_)
        simp only [rw_c1, ↓rx_iinc, ↓rx_nil, ↓ry_li0s, ↓ry_li0z, rz_set, rz_nol, rz_clr, List.set_cons_zero, List.set_cons_succ, rz_tr, Nat.reduceAdd, Int.reduceAdd, Int.reduceToNat, Int.reduceSub, Int.reduceNeg, Int.cast_ofNat_Int]
        try simp (disch := omega) only [re_sh, pk_us, pk_un, va_up_self, va_up_ne, nI_add, pk_mul, nI_clamp, vp_inT, nI_ltI, nI_leI, nI_eqI, pk_sub, true_and, and_true]
        refine hK _ _ _ _ ?_
        refine rz_blk' [(.goto (-29), 3, 0, 0)] (by decide +kernel) (Nat.le_refl _) (Nat.le_refl _) (fun K R hK hR => ?_)
        simp only [↓rx_goto, ↓rx_nil, rz_set, rz_nol, rz_clr, List.set_cons_zero, List.set_cons_succ, rz_tr, Nat.reduceAdd, Int.reduceAdd, Int.reduceToNat, Int.reduceSub, Int.reduceNeg, Int.cast_ofNat_Int]
        try simp (disch := omega) only [re_sh, pk_us, pk_un, va_up_self, va_up_ne, nI_add, pk_mul, nI_clamp, vp_inT, nI_ltI, nI_leI, nI_eqI, pk_sub, true_and, and_true]
        refine hK _ _ _ _ ?_
        refine ih (i + 1) _ (by omega) (fun f hf1 => ?_) (fun x hx1 => ?_) (fun q hq => ?_)
        · rw [va_up_ne _ _ hf1]; exact hf f hf1
        · rw [va_up_self, pk_un (by omega)]; exact hx x (by omega)
        · rw [va_up_self]
          by_cases c : q = i
          · subst c; rw [pk_us]
          · rw [pk_un (by omega)]; exact hs q (by omega)
    exact lp 3 0 B rfl (fun _ _ => rfl) (fun _ _ => rfl) (fun q hq => absurd hq (Nat.not_lt_zero _))
  refine rz_blk' [(.ifCond .ne 4, 3, 0, 0)] (by decide +kernel) (Nat.le_refl _) (Nat.le_refl _) (fun K R hK hR => ?_)
  simp only [↓rx_ifCond_ne, ↓rx_nil, ↓ry_i1, rz_set, rz_nol, rz_clr, List.set_cons_zero, List.set_cons_succ, rz_tr, Nat.reduceAdd, Int.reduceAdd, Int.reduceToNat, Int.reduceSub, Int.reduceNeg, Int.cast_ofNat_Int]
  try simp (disch := omega) only [pk_us, pk_un, va_up_self, va_up_ne, nI_add, pk_mul, nI_clamp, vp_inT, nI_ltI, nI_leI, nI_eqI, pk_sub, true_and, and_true]
  refine ⟨fun q2 => hK _ _ _ _ ?_, fun q2 => absurd q2 (show ¬ rz_b true = 0 by decide)⟩
  refine rz_blk' [(.iload_n 2, 1, 0, 0), (.iconst 0, 1, 0, 0), (.iconst 3, 1, 0, 0)] (by decide +kernel) (Nat.le_refl _) (Nat.le_refl _) (fun K R hK hR => ?_)
  simp only [rw_c0, rw_c3, ↓rx_iconst, ↓rx_iload_n2, ↓rx_nil, ↓ry_li0s, ↓ry_li0z, rz_set, rz_nol, rz_clr, List.set_cons_zero, List.set_cons_succ, rz_tr, Nat.reduceAdd, Int.reduceAdd, Int.reduceToNat, Int.reduceSub, Int.reduceNeg, Int.cast_ofNat_Int]
  try simp (disch := omega) only [pk_us, pk_un, va_up_self, va_up_ne, nI_add, pk_mul, nI_clamp, vp_inT, nI_ltI, nI_leI, nI_eqI, pk_sub, true_and, and_true]
  refine hK _ _ _ _ ?_
  refine rz_cS (As := [.int y, .int (nI 0), .int (nI 3)]) (S := []) l_Mod_210 (by decide +kernel) rfl (Nat.le_of_ble_eq_true rfl) (Nat.le_refl _) (Nat.le_refl _) (c_Mod_within _ _ _) (fun r G' hr => ?_)
  obtain ⟨rfl, hg⟩ := hr
  subst hg
  simp only [Option.toList, List.cons_append, List.nil_append]
  refine rz_blk' [(.ifCond .ne 9, 3, 0, 0)] (by decide +kernel) (Nat.le_refl _) (Nat.le_refl _) (fun K R hK hR => ?_)
  simp only [↓rx_ifCond_ne, ↓rx_nil, ↓ry_i1, rz_set, rz_nol, rz_clr, List.set_cons_zero, List.set_cons_succ, rz_tr, Nat.reduceAdd, Int.reduceAdd, Int.reduceToNat, Int.reduceSub, Int.reduceNeg, Int.cast_ofNat_Int]
  try simp (disch := omega) only [pk_us, pk_un, va_up_self, va_up_ne, nI_add, pk_mul, nI_clamp, vp_inT, nI_ltI, nI_leI, nI_eqI, pk_sub, true_and, and_true]
  rw [rz_b_0]
  refine ⟨fun q3 => hK _ _ _ _ ?_, fun q3 => hK _ _ _ _ ?_⟩
  · -- 15 taken
    obtain ⟨n, -, hn3, rfl⟩ := key.mp (by simpa using q3)
    exact hgo n hn3 rfl
  · -- 15 not taken
    refine rz_blk' [(.aload_n 0, 1, 0, 0), (.iconst 2, 1, 0, 0), (.putfield 206, 3, 10, 0)] (by decide +kernel) (Nat.le_refl _) (Nat.le_refl _) (fun K R hK hR => ?_)
    simp only [List.length_cons, List.length_nil, Nat.reduceLT, rf_10_0, rw_c2, ↓rx_aload_n0, ↓rx_iconst, ↓rx_nil, ↓rx_putfield, ↓ry_lr0s, ↓ry_lr0z, ↓ry_obu, ↓ry_vr, true_and, re_len, re_u0, ↓re_ob, rz_set, rz_nol, rz_clr, List.set_cons_zero, List.set_cons_succ, rz_tr, Nat.reduceAdd, Int.reduceAdd, Int.reduceToNat, Int.reduceSub, Int.reduceNeg, Int.cast_ofNat_Int]
    try simp (disch := omega) only [pk_us, pk_un, va_up_self, va_up_ne, nI_add, pk_mul, nI_clamp, vp_inT, nI_ltI, nI_leI, nI_eqI, pk_sub, true_and, and_true]
    refine hK _ _ _ _ ?_
    refine rz_blk' [(.return_, 1, 0, 0)] (by decide +kernel) (Nat.le_refl _) (Nat.le_refl _) (fun K R hK hR => ?_)
    simp only [↓rx_nil, ↓rx_return_, rz_set, rz_nol, rz_clr, List.set_cons_zero, List.set_cons_succ, rz_tr, Nat.reduceAdd, Int.reduceAdd, Int.reduceToNat, Int.reduceSub, Int.reduceNeg, Int.cast_ofNat_Int]
    try simp (disch := omega) only [pk_us, pk_un, va_up_self, va_up_ne, nI_add, pk_mul, nI_clamp, vp_inT, nI_ltI, nI_leI, nI_eqI, pk_sub, true_and, and_true]
    refine hR _ _ (rz_nb_i (by decide)) ?_
    rw [← hQ]
    refine rv_e (rf_0 h) 2 (by decide) (by decide) (Or.inr ⟨rfl, hnk, fun n h1 hy => ?_⟩)
    rw [key.mpr ⟨n, Nat.zero_le _, h1, hy⟩] at q3
    cases q3
