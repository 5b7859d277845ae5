/-! the reference: isWordBefore, isSame -/
/-- the word that isSame tells -/
def xw_s (rb : Bool) (u1 : List Nat) (wb : Bool) (u2 : List Nat) : List Nat := if rb then (if wb && wd_bef u2 u1 then u2 else u1) else if wb then u2 else []
/-- a call has failed: nothing that counts has changed -/
theorem rf_f {I I' : Nat → Int32} {A A' : Nat → Nat → Int32} {V : dk_V} {KI K : List Nat} (h : rf I A V) (hI : fi KI I I') (hA : fa K A A') (h46 : I' 46 = I 46) (hk : ([12, 67, 68, 69].all (fun k => !KI.contains k)) = true) (hK : (K.all (fun k => decide (14 ≤ k) && (decide (k < 70) || decide (76 ≤ k)))) = true) : rf I' A' V := by
  have h0 : ∀ k, k ∈ [12, 67, 68, 69] → KI.contains k = false := fun k hk1 => by simpa using (List.all_eq_true.mp hk) k hk1
  refine rf_keep h ⟨hI 12 (h0 12 (by decide)), fun j h1 h2 => ?_⟩ ((kp.rf (I := I)).a hA hK).2
  by_cases c : j = 46
  · subst c; exact h46
  · refine hI j (h0 j ?_)
    have : j = 67 ∨ j = 68 ∨ j = 69 := by omega
    rcases this with rfl | rfl | rfl <;> decide
/-- a call has told a word -/
theorem rf_r {I I' : Nat → Int32} {A A' : Nat → Nat → Int32} {V : dk_V} {KI K : List Nat} {R : List Nat} {n : Nat} (h : rf I A V) (hI : fi KI I I') (hA : fa K A A') (hn : n ≤ 4100) (h46 : I' 46 = nI n) (hr : re_r I' A' R) (hk : ([67, 68, 69].all (fun k => !KI.contains k)) = true) (hK : (K.all (fun k => decide (13 ≤ k) && (decide (k < 70) || decide (76 ≤ k)))) = true) : rf I' A' (dk_ur V R) := by
  have h0 : ∀ k, k ∈ [67, 68, 69] → KI.contains k = false := fun k hk1 => by simpa using (List.all_eq_true.mp hk) k hk1
  have h1 : ∀ k, (k < 13 ∨ (70 ≤ k ∧ k < 76)) → A' k = A k := fun k hk1 => hA k (by
    cases c : K.contains k with
    | false => rfl
    | true =>
      have := (List.all_eq_true.mp hK) k (by simpa using c)
      simp at this; omega)
  refine ⟨fun j hj => re_m_keep (h.1 j hj) (fun f x ho => by rw [h1 f (by unfold re_own at ho; omega)]), hr, re_w_46 h.2.2 hn h46 (fun j h2 h3 => hI j (h0 j ?_)) (fun j h2 h3 => h1 j (Or.inr ⟨h2, h3⟩))⟩
  have : j = 67 ∨ j = 68 ∨ j = 69 := by omega
  rcases this with rfl | rfl | rfl <;> decide
set_option maxRecDepth 100000 in
set_option maxHeartbeats 400000 in
theorem c_Mod_isWordBefore {w : rz_w} {d : Nat} {G : rz_G} {a : Nat} {I : Nat → Int32} {A : Nat → Nat → Int32} {u v : List Nat} (p2 : I 46 = nI u.length) (p3 : sg (A 48) 0 u) (q2 : I 47 = nI v.length) (q3 : sg (A 49) 0 v) (p5 : u.length ≤ 4096) (q5 : v.length ≤ 4096) (p6 : ∀ x ∈ u, x < 3) (q6 : ∀ x ∈ v, x < 3) : rz_C w d 0 0 y_Mod_isWordBefore m_Mod_isWordBefore [.ref a] (re_put G a I A) (fun (r : Option Value) (G' : rz_G) => r = some (.int (rz_b (wd_bef u v))) ∧ G' = re_put G a I A) := by
  generalize hQ : (fun (r : Option Value) (G' : rz_G) => r = some (.int (rz_b (wd_bef u v))) ∧ G' = re_put G a I A) = Q
  have p7 : ∀ x ∈ u, x < 2 ^ 31 := fun x hx => Nat.lt_trans (p6 x hx) (by decide)
  have q7 : ∀ x ∈ v, x < 2 ^ 31 := fun x hx => Nat.lt_trans (q6 x hx) (by decide)
  have hend : ∀ i, u.length = v.length → lcpn u v = i → rz_T w d 0 0 m_Mod_isWordBefore 0 0 59 [some (.ref a), some (.int (nI i))] [] (re_put G a I A) Q := by
    intro i hlen hlc
    have hle := lcpn_le u v
    have hbf : wd_bef u v = (match u[i]?, v[i]? with | some x, some y => decide (x < y) | _, _ => false) := by
      unfold wd_bef
      rw [if_neg (by omega), ← lcpn_wd, hlc]
      rfl
    by_cases c : i < u.length
    · have c2 : i < v.length := by omega
      have e1 := p3 i c
      have e2 := q3 i c2
      rw [Nat.zero_add] at e1 e2
      have x1 := p7 _ (List.getElem_mem c)
      have x2 := q7 _ (List.getElem_mem c2)
      rw [List.getElem?_eq_getElem c, List.getElem?_eq_getElem c2] at hbf
      refine rz_blk' [(.iload_n 1, 1, 0, 0), (.aload_n 0, 1, 0, 0), (.getfield 309, 3, 10, 46), (.if_icmp .ge 22, 3, 0, 0)] (by decide +kernel) (Nat.le_refl _) (Nat.le_refl _) (fun K R hK hR => ?_)
      simp only [↓rx_aload_n0, ↓rx_getfield, ↓rx_if_icmp_ge, ↓rx_iload_n1, ↓rx_nil, ↓ry_i2, ↓ry_li0s, ↓ry_li0z, ↓ry_lr0s, ↓ry_lr0z, ↓ry_obu, ↓ry_r1, ↓re_F46, ↓re_ob, p2, e1, e2, rz_set, rz_nol, rz_clr, List.set_cons_zero, List.set_cons_succ, rz_tr, Nat.reduceAdd, Int.reduceAdd, Int.reduceToNat, Int.reduceSub, Int.reduceNeg, Int.cast_ofNat_Int]
      try simp (disch := omega) only [p2, e1, e2, pk_us, pk_un, va_up_self, va_up_ne, nI_add, pk_mul, nI_clamp, vp_inT, nI_ltI, nI_leI, nI_eqI, pk_sub, true_and, and_true]
      refine ⟨fun q1 => by omega, fun q1 => hK _ _ _ _ ?_⟩
      refine rz_blk' [(.aload_n 0, 1, 0, 0), (.getfield 126, 3, 10, 48), (.iload_n 1, 1, 0, 0), (.iaload, 1, 0, 0), (.aload_n 0, 1, 0, 0), (.getfield 129, 3, 10, 49), (.iload_n 1, 1, 0, 0), (.iaload, 1, 0, 0), (.if_icmp .ge 7, 3, 0, 0)] (by decide +kernel) (Nat.le_refl _) (Nat.le_refl _) (fun K R hK hR => ?_)
      simp only [↓rx_aload_n0, ↓rx_getfield, ↓rx_iaload, ↓rx_if_icmp_ge, ↓rx_iload_n1, ↓rx_nil, ↓ry_i2, ↓ry_iau, ↓ry_li0s, ↓ry_li0z, ↓ry_lr0s, ↓ry_lr0z, ↓ry_obu, ↓ry_r1, ↓ry_ri, true_and, re_a48, re_a49, ↓re_F48, ↓re_F49, ↓re_i48, ↓re_i49, ↓re_ob, p2, e1, e2, rz_set, rz_nol, rz_clr, List.set_cons_zero, List.set_cons_succ, rz_tr, Nat.reduceAdd, Int.reduceAdd, Int.reduceToNat, Int.reduceSub, Int.reduceNeg, Int.cast_ofNat_Int]
      try simp (disch := omega) only [p2, e1, e2, pk_us, pk_un, va_up_self, va_up_ne, nI_add, pk_mul, nI_clamp, vp_inT, nI_ltI, nI_leI, nI_eqI, pk_sub, true_and, and_true]
      refine ⟨fun q2 => hK _ _ _ _ ?_, fun q2 => hK _ _ _ _ ?_⟩
      · -- 79 taken
        refine rz_blk' [(.iconst 0, 1, 0, 0), (.ireturn, 1, 0, 0)] (by decide +kernel) (Nat.le_refl _) (Nat.le_refl _) (fun K R hK hR => ?_)
        simp only [rw_c0, ↓rx_iconst, ↓rx_ireturn, ↓rx_nil, p2, e1, e2, rz_set, rz_nol, rz_clr, List.set_cons_zero, List.set_cons_succ, rz_tr, Nat.reduceAdd, Int.reduceAdd, Int.reduceToNat, Int.reduceSub, Int.reduceNeg, Int.cast_ofNat_Int]
        try simp (disch := omega) only [p2, e1, e2, pk_us, pk_un, va_up_self, va_up_ne, nI_add, pk_mul, nI_clamp, vp_inT, nI_ltI, nI_leI, nI_eqI, pk_sub, true_and, and_true]
        first
          | exact hR _ _ rz_nb_1 (by rw [← hQ]; exact ⟨by rw [hbf]; simp only; rw [decide_eq_true (by omega)]; rfl, rfl⟩)
          | exact hR _ _ rz_nb_0 (by rw [← hQ]; exact ⟨by rw [hbf]; simp only; rw [decide_eq_false (by omega)]; rfl, rfl⟩)
      · -- 79 not taken
        refine rz_blk' [(.iconst 1, 1, 0, 0), (.goto 4, 3, 0, 0)] (by decide +kernel) (Nat.le_refl _) (Nat.le_refl _) (fun K R hK hR => ?_)
        simp only [rw_c1, ↓rx_goto, ↓rx_iconst, ↓rx_nil, p2, e1, e2, rz_set, rz_nol, rz_clr, List.set_cons_zero, List.set_cons_succ, rz_tr, Nat.reduceAdd, Int.reduceAdd, Int.reduceToNat, Int.reduceSub, Int.reduceNeg, Int.cast_ofNat_Int]
        try simp (disch := omega) only [p2, e1, e2, pk_us, pk_un, va_up_self, va_up_ne, nI_add, pk_mul, nI_clamp, vp_inT, nI_ltI, nI_leI, nI_eqI, pk_sub, true_and, and_true]
        refine hK _ _ _ _ ?_
        refine rz_blk' [(.ireturn, 1, 0, 0)] (by decide +kernel) (Nat.le_refl _) (Nat.le_refl _) (fun K R hK hR => ?_)
        simp only [↓rx_ireturn, ↓rx_nil, p2, e1, e2, rz_set, rz_nol, rz_clr, List.set_cons_zero, List.set_cons_succ, rz_tr, Nat.reduceAdd, Int.reduceAdd, Int.reduceToNat, Int.reduceSub, Int.reduceNeg, Int.cast_ofNat_Int]
        try simp (disch := omega) only [p2, e1, e2, pk_us, pk_un, va_up_self, va_up_ne, nI_add, pk_mul, nI_clamp, vp_inT, nI_ltI, nI_leI, nI_eqI, pk_sub, true_and, and_true]
        first
          | exact hR _ _ rz_nb_1 (by rw [← hQ]; exact ⟨by rw [hbf]; simp only; rw [decide_eq_true (by omega)]; rfl, rfl⟩)
          | exact hR _ _ rz_nb_0 (by rw [← hQ]; exact ⟨by rw [hbf]; simp only; rw [decide_eq_false (by omega)]; rfl, rfl⟩)
    · rw [List.getElem?_eq_none (by omega)] at hbf
      refine rz_blk' [(.iload_n 1, 1, 0, 0), (.aload_n 0, 1, 0, 0), (.getfield 309, 3, 10, 46), (.if_icmp .ge 22, 3, 0, 0)] (by decide +kernel) (Nat.le_refl _) (Nat.le_refl _) (fun K R hK hR => ?_)
      simp only [↓rx_aload_n0, ↓rx_getfield, ↓rx_if_icmp_ge, ↓rx_iload_n1, ↓rx_nil, ↓ry_i2, ↓ry_li0s, ↓ry_li0z, ↓ry_lr0s, ↓ry_lr0z, ↓ry_obu, ↓ry_r1, ↓re_F46, ↓re_ob, p2, rz_set, rz_nol, rz_clr, List.set_cons_zero, List.set_cons_succ, rz_tr, Nat.reduceAdd, Int.reduceAdd, Int.reduceToNat, Int.reduceSub, Int.reduceNeg, Int.cast_ofNat_Int]
      try simp (disch := omega) only [p2, pk_us, pk_un, va_up_self, va_up_ne, nI_add, pk_mul, nI_clamp, vp_inT, nI_ltI, nI_leI, nI_eqI, pk_sub, true_and, and_true]
      refine ⟨fun q3 => hK _ _ _ _ ?_, fun q3 => by omega⟩
      refine rz_blk' [(.iconst 0, 1, 0, 0), (.ireturn, 1, 0, 0)] (by decide +kernel) (Nat.le_refl _) (Nat.le_refl _) (fun K R hK hR => ?_)
      simp only [rw_c0, ↓rx_iconst, ↓rx_ireturn, ↓rx_nil, p2, rz_set, rz_nol, rz_clr, List.set_cons_zero, List.set_cons_succ, rz_tr, Nat.reduceAdd, Int.reduceAdd, Int.reduceToNat, Int.reduceSub, Int.reduceNeg, Int.cast_ofNat_Int]
      try simp (disch := omega) only [p2, pk_us, pk_un, va_up_self, va_up_ne, nI_add, pk_mul, nI_clamp, vp_inT, nI_ltI, nI_leI, nI_eqI, pk_sub, true_and, and_true]
      exact hR _ _ rz_nb_0 (by rw [← hQ]; exact ⟨by rw [hbf]; rfl, rfl⟩)
  have lp : ∀ (j i : Nat), i + j = u.length → u.length = v.length → (∀ k, k < i → u[k]? = v[k]?) → rz_T w d 0 0 m_Mod_isWordBefore 0 0 30 [some (.ref a), some (.int (nI i))] [] (re_put G a I A) Q := by
    intro j
    induction j with
    | zero =>
      intro i hij hlen hk
      refine rz_blk' [(.iload_n 1, 1, 0, 0), (.aload_n 0, 1, 0, 0), (.getfield 309, 3, 10, 46), (.if_icmp .ge 24, 3, 0, 0)] (by decide +kernel) (Nat.le_refl _) (Nat.le_refl _) (fun K R hK hR => ?_)
      simp only [↓rx_aload_n0, ↓rx_getfield, ↓rx_if_icmp_ge, ↓rx_iload_n1, ↓rx_nil, ↓ry_i2, ↓ry_li0s, ↓ry_li0z, ↓ry_lr0s, ↓ry_lr0z, ↓ry_obu, ↓ry_r1, ↓re_F46, ↓re_ob, p2, rz_set, rz_nol, rz_clr, List.set_cons_zero, List.set_cons_succ, rz_tr, Nat.reduceAdd, Int.reduceAdd, Int.reduceToNat, Int.reduceSub, Int.reduceNeg, Int.cast_ofNat_Int]
      try simp (disch := omega) only [p2, pk_us, pk_un, va_up_self, va_up_ne, nI_add, pk_mul, nI_clamp, vp_inT, nI_ltI, nI_leI, nI_eqI, pk_sub, true_and, and_true]
      refine ⟨fun q4 => hK _ _ _ _ ?_, fun q4 => by omega⟩
      exact hend i hlen (lcpn_eq (by omega) (by omega) hk (fun _ _ => by omega))
    | succ j ih =>
      intro i hij hlen hk
      have c : i < u.length := by omega
      have c2 : i < v.length := by omega
      have hcmp := sg_eq p3 q3 p7 q7 c c2
      rw [Nat.zero_add] at hcmp
      refine rz_blk' [(.iload_n 1, 1, 0, 0), (.aload_n 0, 1, 0, 0), (.getfield 309, 3, 10, 46), (.if_icmp .ge 24, 3, 0, 0)] (by decide +kernel) (Nat.le_refl _) (Nat.le_refl _) (fun K R hK hR => ?_)
      simp only [↓rx_aload_n0, ↓rx_getfield, ↓rx_if_icmp_ge, ↓rx_iload_n1, ↓rx_nil, ↓ry_i2, ↓ry_li0s, ↓ry_li0z, ↓ry_lr0s, ↓ry_lr0z, ↓ry_obu, ↓ry_r1, ↓re_F46, ↓re_ob, p2, rz_set, rz_nol, rz_clr, List.set_cons_zero, List.set_cons_succ, rz_tr, Nat.reduceAdd, Int.reduceAdd, Int.reduceToNat, Int.reduceSub, Int.reduceNeg, Int.cast_ofNat_Int]
      try simp (disch := omega) only [p2, hcmp, pk_us, pk_un, va_up_self, va_up_ne, nI_add, pk_mul, nI_clamp, vp_inT, nI_ltI, nI_leI, nI_eqI, pk_sub, true_and, and_true]
      refine ⟨fun q5 => by omega, fun q5 => hK _ _ _ _ ?_⟩
      refine rz_blk' [(.aload_n 0, 1, 0, 0), (.getfield 126, 3, 10, 48), (.iload_n 1, 1, 0, 0), (.iaload, 1, 0, 0), (.aload_n 0, 1, 0, 0), (.getfield 129, 3, 10, 49), (.iload_n 1, 1, 0, 0), (.iaload, 1, 0, 0), (.if_icmp .ne 9, 3, 0, 0)] (by decide +kernel) (Nat.le_refl _) (Nat.le_refl _) (fun K R hK hR => ?_)
      simp only [↓rx_aload_n0, ↓rx_getfield, ↓rx_iaload, ↓rx_if_icmp_ne, ↓rx_iload_n1, ↓rx_nil, ↓ry_i2, ↓ry_iau, ↓ry_li0s, ↓ry_li0z, ↓ry_lr0s, ↓ry_lr0z, ↓ry_obu, ↓ry_r1, ↓ry_ri, true_and, re_a48, re_a49, ↓re_F48, ↓re_F49, ↓re_i48, ↓re_i49, ↓re_ob, p2, rz_set, rz_nol, rz_clr, List.set_cons_zero, List.set_cons_succ, rz_tr, Nat.reduceAdd, Int.reduceAdd, Int.reduceToNat, Int.reduceSub, Int.reduceNeg, Int.cast_ofNat_Int]
      try simp (disch := omega) only [p2, hcmp, pk_us, pk_un, va_up_self, va_up_ne, nI_add, pk_mul, nI_clamp, vp_inT, nI_ltI, nI_leI, nI_eqI, pk_sub, true_and, and_true]
      refine ⟨fun q6 => hK _ _ _ _ ?_, fun q6 => hK _ _ _ _ ?_⟩
      · -- 50 taken
        exact hend i hlen (lcpn_eq (by omega) (by omega) hk (fun _ _ => by rw [List.getElem?_eq_getElem c, List.getElem?_eq_getElem c2]; simpa using q6))
      · -- 50 not taken
        refine rz_blk' [(.iinc 1 1, 3, 0, 0)] (by decide +kernel) (Nat.le_refl _) (Nat.le_refl _) (fun K R hK hR => ?_)
        simp only [rw_c1, ↓rx_iinc, ↓rx_nil, ↓ry_li0s, ↓ry_li0z, p2, rz_set, rz_nol, rz_clr, List.set_cons_zero, List.set_cons_succ, rz_tr, Nat.reduceAdd, Int.reduceAdd, Int.reduceToNat, Int.reduceSub, Int.reduceNeg, Int.cast_ofNat_Int]
        try simp (disch := omega) only [p2, hcmp, pk_us, pk_un, va_up_self, va_up_ne, nI_add, pk_mul, nI_clamp, vp_inT, nI_ltI, nI_leI, nI_eqI, pk_sub, true_and, and_true]
        refine hK _ _ _ _ ?_
        refine rz_blk' [(.goto (-26), 3, 0, 0)] (by decide +kernel) (Nat.le_refl _) (Nat.le_refl _) (fun K R hK hR => ?_)
        simp only [↓rx_goto, ↓rx_nil, p2, rz_set, rz_nol, rz_clr, List.set_cons_zero, List.set_cons_succ, rz_tr, Nat.reduceAdd, Int.reduceAdd, Int.reduceToNat, Int.reduceSub, Int.reduceNeg, Int.cast_ofNat_Int]
        try simp (disch := omega) only [p2, hcmp, pk_us, pk_un, va_up_self, va_up_ne, nI_add, pk_mul, nI_clamp, vp_inT, nI_ltI, nI_leI, nI_eqI, pk_sub, true_and, and_true]
        refine hK _ _ _ _ ?_
        refine ih (i + 1) (by omega) hlen (fun k hk2 => ?_)
        by_cases ck : k = i
        · subst ck; rw [List.getElem?_eq_getElem c, List.getElem?_eq_getElem c2]; exact congrArg some (by simpa using q6)
        · exact hk k (by omega)
  refine rz_enter' [some (.ref a), none] (by decide +kernel) rfl rfl (Nat.le_of_ble_eq_true rfl) rfl ?_
  refine rz_blk' [(.aload_n 0, 1, 0, 0), (.getfield 309, 3, 10, 46), (.aload_n 0, 1, 0, 0), (.getfield 334, 3, 10, 47), (.if_icmp .eq 20, 3, 0, 0)] (by decide +kernel) (Nat.le_refl _) (Nat.le_refl _) (fun K R hK hR => ?_)
  simp only [↓rx_aload_n0, ↓rx_getfield, ↓rx_if_icmp_eq, ↓rx_nil, ↓ry_i2, ↓ry_lr0s, ↓ry_lr0z, ↓ry_obu, ↓ry_r1, ↓re_F46, ↓re_F47, ↓re_ob, p2, q2, rz_set, rz_nol, rz_clr, List.set_cons_zero, List.set_cons_succ, rz_tr, Nat.reduceAdd, Int.reduceAdd, Int.reduceToNat, Int.reduceSub, Int.reduceNeg, Int.cast_ofNat_Int]
  try simp (disch := omega) only [p2, q2, pk_us, pk_un, va_up_self, va_up_ne, nI_add, pk_mul, nI_clamp, vp_inT, nI_ltI, nI_leI, nI_eqI, pk_sub, true_and, and_true]
  refine ⟨fun q7 => hK _ _ _ _ ?_, fun q7 => hK _ _ _ _ ?_⟩
  · -- 8 taken
    refine rz_blk' [(.iconst 0, 1, 0, 0), (.istore_n 1, 1, 0, 0)] (by decide +kernel) (Nat.le_refl _) (Nat.le_refl _) (fun K R hK hR => ?_)
    simp only [rw_c0, ↓rx_iconst, ↓rx_istore_n1, ↓rx_nil, ↓ry_i1, p2, q2, rz_set, rz_nol, rz_clr, List.set_cons_zero, List.set_cons_succ, rz_tr, Nat.reduceAdd, Int.reduceAdd, Int.reduceToNat, Int.reduceSub, Int.reduceNeg, Int.cast_ofNat_Int]
    try simp (disch := omega) only [p2, q2, pk_us, pk_un, va_up_self, va_up_ne, nI_add, pk_mul, nI_clamp, vp_inT, nI_ltI, nI_leI, nI_eqI, pk_sub, true_and, and_true]
    refine hK _ _ _ _ ?_
    exact lp u.length 0 (Nat.zero_add _) q7 (fun k hk => absurd hk (Nat.not_lt_zero _))
  · -- 8 not taken
    refine rz_blk' [(.aload_n 0, 1, 0, 0), (.getfield 309, 3, 10, 46), (.aload_n 0, 1, 0, 0), (.getfield 334, 3, 10, 47), (.if_icmp .ge 7, 3, 0, 0)] (by decide +kernel) (Nat.le_refl _) (Nat.le_refl _) (fun K R hK hR => ?_)
    simp only [↓rx_aload_n0, ↓rx_getfield, ↓rx_if_icmp_ge, ↓rx_nil, ↓ry_i2, ↓ry_lr0s, ↓ry_lr0z, ↓ry_obu, ↓ry_r1, ↓re_F46, ↓re_F47, ↓re_ob, p2, q2, rz_set, rz_nol, rz_clr, List.set_cons_zero, List.set_cons_succ, rz_tr, Nat.reduceAdd, Int.reduceAdd, Int.reduceToNat, Int.reduceSub, Int.reduceNeg, Int.cast_ofNat_Int]
    try simp (disch := omega) only [p2, q2, pk_us, pk_un, va_up_self, va_up_ne, nI_add, pk_mul, nI_clamp, vp_inT, nI_ltI, nI_leI, nI_eqI, pk_sub, true_and, and_true]
    refine ⟨fun q8 => hK _ _ _ _ ?_, fun q8 => hK _ _ _ _ ?_⟩
    · -- 19 taken
      refine rz_blk' [(.iconst 0, 1, 0, 0), (.ireturn, 1, 0, 0)] (by decide +kernel) (Nat.le_refl _) (Nat.le_refl _) (fun K R hK hR => ?_)
      simp only [rw_c0, ↓rx_iconst, ↓rx_ireturn, ↓rx_nil, p2, q2, rz_set, rz_nol, rz_clr, List.set_cons_zero, List.set_cons_succ, rz_tr, Nat.reduceAdd, Int.reduceAdd, Int.reduceToNat, Int.reduceSub, Int.reduceNeg, Int.cast_ofNat_Int]
      try simp (disch := omega) only [p2, q2, pk_us, pk_un, va_up_self, va_up_ne, nI_add, pk_mul, nI_clamp, vp_inT, nI_ltI, nI_leI, nI_eqI, pk_sub, true_and, and_true]
      first
        | exact hR _ _ rz_nb_1 (by rw [← hQ]; exact ⟨by unfold wd_bef; rw [if_pos q7, decide_eq_true (by omega)]; rfl, rfl⟩)
        | exact hR _ _ rz_nb_0 (by rw [← hQ]; exact ⟨by unfold wd_bef; rw [if_pos q7, decide_eq_false (by omega)]; rfl, rfl⟩)
    · -- 19 not taken
      refine rz_blk' [(.iconst 1, 1, 0, 0), (.goto 4, 3, 0, 0)] (by decide +kernel) (Nat.le_refl _) (Nat.le_refl _) (fun K R hK hR => ?_)
      simp only [rw_c1, ↓rx_goto, ↓rx_iconst, ↓rx_nil, p2, q2, rz_set, rz_nol, rz_clr, List.set_cons_zero, List.set_cons_succ, rz_tr, Nat.reduceAdd, Int.reduceAdd, Int.reduceToNat, Int.reduceSub, Int.reduceNeg, Int.cast_ofNat_Int]
      try simp (disch := omega) only [p2, q2, pk_us, pk_un, va_up_self, va_up_ne, nI_add, pk_mul, nI_clamp, vp_inT, nI_ltI, nI_leI, nI_eqI, pk_sub, true_and, and_true]
      refine hK _ _ _ _ ?_
      refine rz_blk' [(.ireturn, 1, 0, 0)] (by decide +kernel) (Nat.le_refl _) (Nat.le_refl _) (fun K R hK hR => ?_)
      simp only [↓rx_ireturn, ↓rx_nil, p2, q2, rz_set, rz_nol, rz_clr, List.set_cons_zero, List.set_cons_succ, rz_tr, Nat.reduceAdd, Int.reduceAdd, Int.reduceToNat, Int.reduceSub, Int.reduceNeg, Int.cast_ofNat_Int]
      try simp (disch := omega) only [p2, q2, pk_us, pk_un, va_up_self, va_up_ne, nI_add, pk_mul, nI_clamp, vp_inT, nI_ltI, nI_leI, nI_eqI, pk_sub, true_and, and_true]
      first
        | exact hR _ _ rz_nb_1 (by rw [← hQ]; exact ⟨by unfold wd_bef; rw [if_pos q7, decide_eq_true (by omega)]; rfl, rfl⟩)
        | exact hR _ _ rz_nb_0 (by rw [← hQ]; exact ⟨by unfold wd_bef; rw [if_pos q7, decide_eq_false (by omega)]; rfl, rfl⟩)
set_option maxRecDepth 100000 in
set_option maxHeartbeats 4000000 in
theorem c_Mod_isSame {w : rz_w} {d : Nat} {G : rz_G} {a : Nat} {I : Nat → Int32} {A : Nat → Nat → Int32} {V : dk_V} (h : rf I A V) (x y : Int32) : rz_C w (d + 6) 0 0 y_Mod_isSame m_Mod_isSame [.ref a, .int x, .int y] (re_put G a I A) (rv G a V (fun r V' => ∃ k1 k2 rb u1 wb u2, k1 < 6 ∧ k2 < 6 ∧ x = nI k1 ∧ y = nI k2 ∧ (∀ v, ¬ df (tk (V.1 k1)) (tk (V.1 k1)) (xd_st (tk (V.1 k1)) (tk (V.1 k1))) v) ∧ (∀ v, ¬ df (tk (V.1 k2)) (tk (V.1 k2)) (xd_st (tk (V.1 k2)) (tk (V.1 k2))) v) ∧ xl_is (tk (V.1 k1)) (tk (V.1 k2)) (if (tk (V.1 k1)).1.testBit 0 = true then 1 else 0) (if (tk (V.1 k2)).1.testBit 0 = true then 1 else 0) rb u1 ∧ xm_is (tk (V.1 k1)) (tk (V.1 k2)) (xd_st (tk (V.1 k1)) (tk (V.1 k2))) wb u2 ∧ (∀ t ∈ u1, t < 3) ∧ (∀ t ∈ u2, t < 3) ∧ r = some (.int (rz_b (!rb && !wb))) ∧ V' = dk_ur V (xw_s rb u1 wb u2)) (fun c => (c = 1 ∧ (dk_no x ∨ dk_no y)) ∨ (c = 2 ∧ ∃ k1 k2, k1 < 6 ∧ k2 < 6 ∧ x = nI k1 ∧ y = nI k2 ∧ ((∃ v, df (tk (V.1 k1)) (tk (V.1 k1)) (xd_st (tk (V.1 k1)) (tk (V.1 k1))) v) ∨ (∃ v, df (tk (V.1 k2)) (tk (V.1 k2)) (xd_st (tk (V.1 k2)) (tk (V.1 k2))) v))))) := by
  generalize hQ : (rv G a V (fun r V' => ∃ k1 k2 rb u1 wb u2, k1 < 6 ∧ k2 < 6 ∧ x = nI k1 ∧ y = nI k2 ∧ (∀ v, ¬ df (tk (V.1 k1)) (tk (V.1 k1)) (xd_st (tk (V.1 k1)) (tk (V.1 k1))) v) ∧ (∀ v, ¬ df (tk (V.1 k2)) (tk (V.1 k2)) (xd_st (tk (V.1 k2)) (tk (V.1 k2))) v) ∧ xl_is (tk (V.1 k1)) (tk (V.1 k2)) (if (tk (V.1 k1)).1.testBit 0 = true then 1 else 0) (if (tk (V.1 k2)).1.testBit 0 = true then 1 else 0) rb u1 ∧ xm_is (tk (V.1 k1)) (tk (V.1 k2)) (xd_st (tk (V.1 k1)) (tk (V.1 k2))) wb u2 ∧ (∀ t ∈ u1, t < 3) ∧ (∀ t ∈ u2, t < 3) ∧ r = some (.int (rz_b (!rb && !wb))) ∧ V' = dk_ur V (xw_s rb u1 wb u2)) (fun c => (c = 1 ∧ (dk_no x ∨ dk_no y)) ∨ (c = 2 ∧ ∃ k1 k2, k1 < 6 ∧ k2 < 6 ∧ x = nI k1 ∧ y = nI k2 ∧ ((∃ v, df (tk (V.1 k1)) (tk (V.1 k1)) (xd_st (tk (V.1 k1)) (tk (V.1 k1))) v) ∨ (∃ v, df (tk (V.1 k2)) (tk (V.1 k2)) (xd_st (tk (V.1 k2)) (tk (V.1 k2))) v))))) = Q
  refine rz_enter' [some (.ref a), some (.int x), some (.int y), none, none, none] (by decide +kernel) rfl rfl (Nat.le_of_ble_eq_true rfl) rfl ?_
  refine rz_blk' [(.aload_n 0, 1, 0, 0), (.iload_n 1, 1, 0, 0)] (by decide +kernel) (Nat.le_refl _) (Nat.le_refl _) (fun K R hK hR => ?_)
  simp only [↓rx_aload_n0, ↓rx_iload_n1, ↓rx_nil, ↓ry_li0s, ↓ry_li0z, ↓ry_lr0s, ↓ry_lr0z, rz_set, rz_nol, rz_clr, List.set_cons_zero, List.set_cons_succ, rz_tr, Nat.reduceAdd, Int.reduceAdd, Int.reduceToNat, Int.reduceSub, Int.reduceNeg, Int.cast_ofNat_Int]
  try simp (disch := omega) only [pk_us, pk_un, va_up_self, va_up_ne, nI_add, pk_mul, nI_clamp, vp_inT, nI_ltI, nI_leI, nI_eqI, pk_sub, true_and, and_true]
  refine hK _ _ _ _ ?_
  refine rz_cV (As := [.int x]) (b := a) (S := []) l_Mod_214 (by decide +kernel) rfl re_at0 rfl (Nat.le_of_ble_eq_true rfl) (Nat.le_refl _) (Nat.le_refl _) (c_Mod_isMachine _) (fun r G' hr => ?_)
  rcases hr with ⟨k1, hk1, rfl, rfl, hg⟩ | ⟨hno, rfl, hg⟩
  rotate_left
  · subst hg
    simp only [Option.toList, List.cons_append, List.nil_append]
    refine rz_blk' [(.ifCond .eq 11, 3, 0, 0)] (by decide +kernel) (Nat.le_refl _) (Nat.le_refl _) (fun K R hK hR => ?_)
    simp only [↓rx_ifCond_eq, ↓rx_nil, ↓ry_i1, rz_set, rz_nol, rz_clr, List.set_cons_zero, List.set_cons_succ, rz_tr, Nat.reduceAdd, Int.reduceAdd, Int.reduceToNat, Int.reduceSub, Int.reduceNeg, Int.cast_ofNat_Int]
    try simp (disch := omega) only [pk_us, pk_un, va_up_self, va_up_ne, nI_add, pk_mul, nI_clamp, vp_inT, nI_ltI, nI_leI, nI_eqI, pk_sub, true_and, and_true]
    refine ⟨fun q1 => hK _ _ _ _ ?_, fun q1 => by first | exact absurd rfl q1 | exact absurd trivial q1⟩
    refine rz_blk' [(.iconst 0, 1, 0, 0), (.ireturn, 1, 0, 0)] (by decide +kernel) (Nat.le_refl _) (Nat.le_refl _) (fun K R hK hR => ?_)
    simp only [rw_c0, ↓rx_iconst, ↓rx_ireturn, ↓rx_nil, rz_set, rz_nol, rz_clr, List.set_cons_zero, List.set_cons_succ, rz_tr, Nat.reduceAdd, Int.reduceAdd, Int.reduceToNat, Int.reduceSub, Int.reduceNeg, Int.cast_ofNat_Int]
    try simp (disch := omega) only [pk_us, pk_un, va_up_self, va_up_ne, nI_add, pk_mul, nI_clamp, vp_inT, nI_ltI, nI_leI, nI_eqI, pk_sub, true_and, and_true]
    exact hR _ _ rz_nb_0 (by rw [← hQ]; exact rv_e h 1 (by decide) (by decide) (Or.inl ⟨rfl, Or.inl hno⟩))
  subst hg
  simp only [Option.toList, List.cons_append, List.nil_append]
  refine rz_blk' [(.ifCond .eq 11, 3, 0, 0)] (by decide +kernel) (Nat.le_refl _) (Nat.le_refl _) (fun K R hK hR => ?_)
  simp only [↓rx_ifCond_eq, ↓rx_nil, ↓ry_i1, rz_set, rz_nol, rz_clr, List.set_cons_zero, List.set_cons_succ, rz_tr, Nat.reduceAdd, Int.reduceAdd, Int.reduceToNat, Int.reduceSub, Int.reduceNeg, Int.cast_ofNat_Int]
  try simp (disch := omega) only [pk_us, pk_un, va_up_self, va_up_ne, nI_add, pk_mul, nI_clamp, vp_inT, nI_ltI, nI_leI, nI_eqI, pk_sub, true_and, and_true]
  refine ⟨fun q2 => absurd q2 (by decide), fun q2 => hK _ _ _ _ ?_⟩
  refine rz_blk' [(.aload_n 0, 1, 0, 0), (.iload_n 2, 1, 0, 0)] (by decide +kernel) (Nat.le_refl _) (Nat.le_refl _) (fun K R hK hR => ?_)
  simp only [↓rx_aload_n0, ↓rx_iload_n2, ↓rx_nil, ↓ry_li0s, ↓ry_li0z, ↓ry_lr0s, ↓ry_lr0z, rz_set, rz_nol, rz_clr, List.set_cons_zero, List.set_cons_succ, rz_tr, Nat.reduceAdd, Int.reduceAdd, Int.reduceToNat, Int.reduceSub, Int.reduceNeg, Int.cast_ofNat_Int]
  try simp (disch := omega) only [pk_us, pk_un, va_up_self, va_up_ne, nI_add, pk_mul, nI_clamp, vp_inT, nI_ltI, nI_leI, nI_eqI, pk_sub, true_and, and_true]
  refine hK _ _ _ _ ?_
  refine rz_cV (As := [.int y]) (b := a) (S := []) l_Mod_214 (by decide +kernel) rfl re_at0 rfl (Nat.le_of_ble_eq_true rfl) (Nat.le_refl _) (Nat.le_refl _) (c_Mod_isMachine _) (fun r G' hr => ?_)
  rcases hr with ⟨k2, hk2, rfl, rfl, hg⟩ | ⟨hno, rfl, hg⟩
  rotate_left
  · subst hg
    simp only [Option.toList, List.cons_append, List.nil_append]
    refine rz_blk' [(.ifCond .ne 5, 3, 0, 0)] (by decide +kernel) (Nat.le_refl _) (Nat.le_refl _) (fun K R hK hR => ?_)
    simp only [↓rx_ifCond_ne, ↓rx_nil, ↓ry_i1, rz_set, rz_nol, rz_clr, List.set_cons_zero, List.set_cons_succ, rz_tr, Nat.reduceAdd, Int.reduceAdd, Int.reduceToNat, Int.reduceSub, Int.reduceNeg, Int.cast_ofNat_Int]
    try simp (disch := omega) only [pk_us, pk_un, va_up_self, va_up_ne, nI_add, pk_mul, nI_clamp, vp_inT, nI_ltI, nI_leI, nI_eqI, pk_sub, true_and, and_true]
    refine ⟨fun q3 => by first | exact absurd rfl q3 | exact absurd trivial q3, fun q3 => hK _ _ _ _ ?_⟩
    refine rz_blk' [(.iconst 0, 1, 0, 0), (.ireturn, 1, 0, 0)] (by decide +kernel) (Nat.le_refl _) (Nat.le_refl _) (fun K R hK hR => ?_)
    simp only [rw_c0, ↓rx_iconst, ↓rx_ireturn, ↓rx_nil, rz_set, rz_nol, rz_clr, List.set_cons_zero, List.set_cons_succ, rz_tr, Nat.reduceAdd, Int.reduceAdd, Int.reduceToNat, Int.reduceSub, Int.reduceNeg, Int.cast_ofNat_Int]
    try simp (disch := omega) only [pk_us, pk_un, va_up_self, va_up_ne, nI_add, pk_mul, nI_clamp, vp_inT, nI_ltI, nI_leI, nI_eqI, pk_sub, true_and, and_true]
    exact hR _ _ rz_nb_0 (by rw [← hQ]; exact rv_e (rf_0 h) 1 (by decide) (by decide) (Or.inl ⟨rfl, Or.inr hno⟩))
  subst hg
  simp only [Option.toList, List.cons_append, List.nil_append]
  rw [re_uu]
  generalize hI0 : upd I 0 (nI 0) = I0
  have h0 : rf I0 A V := by rw [← hI0]; exact rf_0 h
  have hI00 : I0 0 = nI 0 := by rw [← hI0, pk_us]
  have hm1 := h0.1 k1 hk1
  have hm2 := h0.1 k2 hk2
  obtain ⟨n46, hn46, hI46⟩ := h0.2.2.1
  have htw1 := tk_tw (re_m_wf hm1)
  have htw2 := tk_tw (re_m_wf hm2)
  clear h
  have hfail : ∀ (I1 : Nat → Int32) (A1 : Nat → Nat → Int32), fi [26, 27, 30, 38, 41, 42, 46, 47] I0 I1 → fa [14, 15, 16, 17, 18, 19, 20, 21, 22, 23, 24, 25, 26, 27, 28, 29, 30, 31, 32, 33, 34, 35, 36, 37, 38, 39, 40, 41, 42, 43, 44, 45, 46, 47, 48, 49] A A1 → I1 46 = I0 46 → ((∃ v, df (tk (V.1 k1)) (tk (V.1 k1)) (xd_st (tk (V.1 k1)) (tk (V.1 k1))) v) ∨ (∃ v, df (tk (V.1 k2)) (tk (V.1 k2)) (xd_st (tk (V.1 k2)) (tk (V.1 k2))) v)) → Q (some (.int (nI 0))) (re_put G a (upd I1 0 (nI 2)) A1) := by
    intro I1 A1 i1 a1 h46 hne
    rw [← hQ]
    exact rv_e (rf_f h0 i1 a1 h46 rfl rfl) 2 (by decide) (by decide) (Or.inr ⟨rfl, k1, k2, hk1, hk2, rfl, rfl, hne⟩)
  have hfo1 := c_Mod_functionOf (w := w) (d := d) (G := G) (a := a) (I := I0) (A := A) hk1 hm1
  have hgo : ∀ (I1 : Nat → Int32) (A1 : Nat → Nat → Int32), fi [26, 27, 30, 38, 41, 42, 46, 47] I0 I1 → fa [14, 15, 16, 17, 18, 19, 20, 21, 22, 23, 24, 25, 26, 27, 28, 29, 30, 31, 32, 33, 34, 35, 36, 37, 38, 39, 40, 41, 42, 43, 44, 45, 46, 47, 48, 49] A A1 → I1 46 = I0 46 → (∀ v, ¬ df (tk (V.1 k1)) (tk (V.1 k1)) (xd_st (tk (V.1 k1)) (tk (V.1 k1))) v) → (∀ v, ¬ df (tk (V.1 k2)) (tk (V.1 k2)) (xd_st (tk (V.1 k2)) (tk (V.1 k2))) v) → rz_T w (d + 6) 0 0 m_Mod_isSame 0 0 48 [some (.ref a), some (.int (nI k1)), some (.int (nI k2)), none, none, none] [] (re_put G a I1 A1) Q := by
    intro I1 A1 i1 a1 j46 hF1 hF2
    clear hfail hfo1
    generalize hT1 : (tk (V.1 k1)) = T1 at *
    generalize hT2 : (tk (V.1 k2)) = T2 at *
    have htw1' := tw_m htw1 (show 3 ≤ 32 by decide)
    have htw2' := tw_m htw2 (show 3 ≤ 32 by decide)
    have htl : ∀ (rb wb : Bool) (u1 u2 : List Nat) (I2 : Nat → Int32) (A2 : Nat → Nat → Int32) (z5 : Option Value), fi [26, 27, 30, 38, 41, 42, 46, 47] I0 I2 → fa [14, 15, 16, 17, 18, 19, 20, 21, 22, 23, 24, 25, 26, 27, 28, 29, 30, 31, 32, 33, 34, 35, 36, 37, 38, 39, 40, 41, 42, 43, 44, 45, 46, 47, 48, 49] A A2 → xl_is T1 T2 (if T1.1.testBit 0 = true then 1 else 0) (if T2.1.testBit 0 = true then 1 else 0) rb u1 → xm_is T1 T2 (xd_st T1 T2) wb u2 → (∀ t ∈ u1, t < 3) → (∀ t ∈ u2, t < 3) → (xw_s rb u1 wb u2).length ≤ 4096 → I2 46 = nI (xw_s rb u1 wb u2).length → sg (A2 48) 0 (xw_s rb u1 wb u2) → rz_T w (d + 6) 0 0 m_Mod_isSame 0 0 239 [some (.ref a), some (.int (nI k1)), some (.int (nI k2)), some (.int (rz_b rb)), some (.int (rz_b wb)), z5] [] (re_put G a I2 A2) Q := by
      intro rb wb u1 u2 I2 A2 z5 i2 a2 x1 x2 x3 x4 x5 x6 x7
      have htw := c_Mod_tellWord (w := w) (d := d + 5) (G := G) (a := a) x6 x7 x5
      have hfin : ∀ (I3 : Nat → Int32) (A3 : Nat → Nat → Int32), fi [12] I2 I3 → fa [13] A2 A3 → re_r I3 A3 (xw_s rb u1 wb u2) → Q (some (.int (rz_b (!rb && !wb)))) (re_put G a I3 A3) := by
        intro I3 A3 i3 a3 hr
        rw [← hQ]
        refine rv_f ?_ (rf_r (KI := 12 :: [26, 27, 30, 38, 41, 42, 46, 47]) (K := 13 :: [14, 15, 16, 17, 18, 19, 20, 21, 22, 23, 24, 25, 26, 27, 28, 29, 30, 31, 32, 33, 34, 35, 36, 37, 38, 39, 40, 41, 42, 43, 44, 45, 46, 47, 48, 49]) h0 (i2.t' i3 rfl rfl) (a2.t' a3 rfl rfl) (by omega : (xw_s rb u1 wb u2).length ≤ 4100) (by rw [i3 46 rfl]; exact x6) hr rfl rfl) ⟨k1, k2, rb, u1, wb, u2, hk1, hk2, rfl, rfl, by rw [hT1]; exact hF1, by rw [hT2]; exact hF2, by rw [hT1, hT2]; exact x1, by rw [hT1, hT2]; exact x2, x3, x4, rfl, rfl⟩
        rw [i3 0 rfl, i2 0 rfl]; exact hI00
      have hret : ∀ z : Int32, z = rz_b (!rb && !wb) → ∀ (I3 : Nat → Int32) (A3 : Nat → Nat → Int32), fi [12] I2 I3 → fa [13] A2 A3 → re_r I3 A3 (xw_s rb u1 wb u2) → Q (some (.int z)) (re_put G a I3 A3) := by
        rintro z rfl; exact hfin
      refine rz_blk' [(.aload_n 0, 1, 0, 0)] (by decide +kernel) (Nat.le_refl _) (Nat.le_refl _) (fun K R hK hR => ?_)
      simp only [↓rx_aload_n0, ↓rx_nil, ↓ry_lr0s, ↓ry_lr0z, rz_set, rz_nol, rz_clr, List.set_cons_zero, List.set_cons_succ, rz_tr, Nat.reduceAdd, Int.reduceAdd, Int.reduceToNat, Int.reduceSub, Int.reduceNeg, Int.cast_ofNat_Int]
      try simp (disch := omega) only [rb_0, pk_us, pk_un, va_up_self, va_up_ne, nI_add, pk_mul, nI_clamp, vp_inT, nI_ltI, nI_leI, nI_eqI, pk_sub, true_and, and_true]
      refine hK _ _ _ _ ?_
      refine rz_cV (As := []) (b := a) (S := []) l_Mod_321 (by decide +kernel) rfl re_at0 rfl (Nat.le_of_ble_eq_true rfl) (Nat.le_refl _) (Nat.le_refl _) (htw) (fun r G' hr => ?_)
      obtain ⟨rfl, I3, A3, rfl, i3, a3, hrr⟩ := hr
      simp only [Option.toList, List.nil_append]
      refine rz_blk' [(.iload_n 3, 1, 0, 0), (.ifCond .ne 12, 3, 0, 0)] (by decide +kernel) (Nat.le_refl _) (Nat.le_refl _) (fun K R hK hR => ?_)
      simp only [↓rx_ifCond_ne, ↓rx_iload_n3, ↓rx_nil, ↓ry_i1, ↓ry_li0s, ↓ry_li0z, rz_set, rz_nol, rz_clr, List.set_cons_zero, List.set_cons_succ, rz_tr, Nat.reduceAdd, Int.reduceAdd, Int.reduceToNat, Int.reduceSub, Int.reduceNeg, Int.cast_ofNat_Int]
      try simp (disch := omega) only [rb_0, pk_us, pk_un, va_up_self, va_up_ne, nI_add, pk_mul, nI_clamp, vp_inT, nI_ltI, nI_leI, nI_eqI, pk_sub, true_and, and_true]
      refine ⟨fun q4 => hK _ _ _ _ ?_, fun q4 => hK _ _ _ _ ?_⟩
      · -- 244 taken
        refine rz_blk' [(.iconst 0, 1, 0, 0), (.ireturn, 1, 0, 0)] (by decide +kernel) (Nat.le_refl _) (Nat.le_refl _) (fun K R hK hR => ?_)
        simp only [rw_c0, ↓rx_iconst, ↓rx_ireturn, ↓rx_nil, rz_set, rz_nol, rz_clr, List.set_cons_zero, List.set_cons_succ, rz_tr, Nat.reduceAdd, Int.reduceAdd, Int.reduceToNat, Int.reduceSub, Int.reduceNeg, Int.cast_ofNat_Int]
        try simp (disch := omega) only [rb_0, pk_us, pk_un, va_up_self, va_up_ne, nI_add, pk_mul, nI_clamp, vp_inT, nI_ltI, nI_leI, nI_eqI, pk_sub, true_and, and_true]
        first
          | exact hR _ _ rz_nb_1 (hret _ (by rw [show rb = false by simpa using @2, show wb = false by simpa using q4]; rfl) I3 A3 i3 a3 hrr)
          | exact hR _ _ rz_nb_0 (hret _ (by rw [show rb = true by simpa using q4]; rfl) I3 A3 i3 a3 hrr)
          | exact hR _ _ rz_nb_0 (hret _ (by rw [show wb = true by simpa using q4]; simp; rfl) I3 A3 i3 a3 hrr)
      · -- 244 not taken
        refine rz_blk' [(.iload 4, 2, 0, 0), (.ifCond .ne 7, 3, 0, 0)] (by decide +kernel) (Nat.le_refl _) (Nat.le_refl _) (fun K R hK hR => ?_)
        simp only [↓rx_ifCond_ne, ↓rx_iload, ↓rx_nil, ↓ry_i1, ↓ry_li0s, ↓ry_li0z, rz_set, rz_nol, rz_clr, List.set_cons_zero, List.set_cons_succ, rz_tr, Nat.reduceAdd, Int.reduceAdd, Int.reduceToNat, Int.reduceSub, Int.reduceNeg, Int.cast_ofNat_Int]
        try simp (disch := omega) only [rb_0, pk_us, pk_un, va_up_self, va_up_ne, nI_add, pk_mul, nI_clamp, vp_inT, nI_ltI, nI_leI, nI_eqI, pk_sub, true_and, and_true]
        refine ⟨fun q5 => hK _ _ _ _ ?_, fun q5 => hK _ _ _ _ ?_⟩
        · -- 249 taken
          refine rz_blk' [(.iconst 0, 1, 0, 0), (.ireturn, 1, 0, 0)] (by decide +kernel) (Nat.le_refl _) (Nat.le_refl _) (fun K R hK hR => ?_)
          simp only [rw_c0, ↓rx_iconst, ↓rx_ireturn, ↓rx_nil, rz_set, rz_nol, rz_clr, List.set_cons_zero, List.set_cons_succ, rz_tr, Nat.reduceAdd, Int.reduceAdd, Int.reduceToNat, Int.reduceSub, Int.reduceNeg, Int.cast_ofNat_Int]
          try simp (disch := omega) only [rb_0, pk_us, pk_un, va_up_self, va_up_ne, nI_add, pk_mul, nI_clamp, vp_inT, nI_ltI, nI_leI, nI_eqI, pk_sub, true_and, and_true]
          first
            | exact hR _ _ rz_nb_1 (hret _ (by rw [show rb = false by simpa using q4, show wb = false by simpa using q5]; rfl) I3 A3 i3 a3 hrr)
            | exact hR _ _ rz_nb_0 (hret _ (by rw [show rb = true by simpa using q5]; rfl) I3 A3 i3 a3 hrr)
            | exact hR _ _ rz_nb_0 (hret _ (by rw [show wb = true by simpa using q5]; simp; rfl) I3 A3 i3 a3 hrr)
        · -- 249 not taken
          refine rz_blk' [(.iconst 1, 1, 0, 0), (.goto 4, 3, 0, 0)] (by decide +kernel) (Nat.le_refl _) (Nat.le_refl _) (fun K R hK hR => ?_)
          simp only [rw_c1, ↓rx_goto, ↓rx_iconst, ↓rx_nil, rz_set, rz_nol, rz_clr, List.set_cons_zero, List.set_cons_succ, rz_tr, Nat.reduceAdd, Int.reduceAdd, Int.reduceToNat, Int.reduceSub, Int.reduceNeg, Int.cast_ofNat_Int]
          try simp (disch := omega) only [rb_0, pk_us, pk_un, va_up_self, va_up_ne, nI_add, pk_mul, nI_clamp, vp_inT, nI_ltI, nI_leI, nI_eqI, pk_sub, true_and, and_true]
          refine hK _ _ _ _ ?_
          refine rz_blk' [(.ireturn, 1, 0, 0)] (by decide +kernel) (Nat.le_refl _) (Nat.le_refl _) (fun K R hK hR => ?_)
          simp only [↓rx_ireturn, ↓rx_nil, rz_set, rz_nol, rz_clr, List.set_cons_zero, List.set_cons_succ, rz_tr, Nat.reduceAdd, Int.reduceAdd, Int.reduceToNat, Int.reduceSub, Int.reduceNeg, Int.cast_ofNat_Int]
          try simp (disch := omega) only [rb_0, pk_us, pk_un, va_up_self, va_up_ne, nI_add, pk_mul, nI_clamp, vp_inT, nI_ltI, nI_leI, nI_eqI, pk_sub, true_and, and_true]
          first
            | exact hR _ _ rz_nb_1 (hret _ (by rw [show rb = false by simpa using q4, show wb = false by simpa using q5]; rfl) I3 A3 i3 a3 hrr)
            | exact hR _ _ rz_nb_0 (hret _ (by rw [show rb = true by simpa using q5]; rfl) I3 A3 i3 a3 hrr)
            | exact hR _ _ rz_nb_0 (hret _ (by rw [show wb = true by simpa using q5]; simp; rfl) I3 A3 i3 a3 hrr)
    have hE : ∀ (rb wb : Bool) (u1 u2 : List Nat) (I2 : Nat → Int32) (A2 : Nat → Nat → Int32), fi [26, 27, 30, 38, 41, 42, 46, 47] I0 I2 → fa [14, 15, 16, 17, 18, 19, 20, 21, 22, 23, 24, 25, 26, 27, 28, 29, 30, 31, 32, 33, 34, 35, 36, 37, 38, 39, 40, 41, 42, 43, 44, 45, 46, 47, 48, 49] A A2 → xl_is T1 T2 (if T1.1.testBit 0 = true then 1 else 0) (if T2.1.testBit 0 = true then 1 else 0) rb u1 → xm_is T1 T2 (xd_st T1 T2) wb u2 → (∀ t ∈ u1, t < 3) → (∀ t ∈ u2, t < 3) → u1.length ≤ 4096 → u2.length ≤ 4096 → (wb = true → I2 46 = nI u2.length ∧ sg (A2 48) 0 u2) → (rb = true → I2 47 = nI u1.length ∧ sg (A2 49) 0 u1) → rz_T w (d + 6) 0 0 m_Mod_isSame 0 0 169 [some (.ref a), some (.int (nI k1)), some (.int (nI k2)), some (.int (rz_b rb)), some (.int (rz_b wb)), none] [] (re_put G a I2 A2) Q := by
      intro rb wb u1 u2 I2 A2 i2 a2 x1 x2 x3 x4 x5 x6 x7 x8
      have c2 : ∀ (B : Nat → Nat → Int32) (J : Nat → Int32), J 46 = nI u1.length → rz_T w (d + 6) 0 0 m_Mod_isSame 0 0 225 [some (.ref a), some (.int (nI k1)), some (.int (nI k2)), some (.int (rz_b rb)), some (.int (rz_b wb)), some (.int (nI (u1.length)))] [] (re_put G a J (va_up B 48 (cp (B 48) (0) (B 49) (0) (u1.length)))) Q → rz_T w (d + 6) 0 0 m_Mod_isSame 0 0 196 [some (.ref a), some (.int (nI k1)), some (.int (nI k2)), some (.int (rz_b rb)), some (.int (rz_b wb)), some (.int (nI 0))] [] (re_put G a J B) Q := by
        intro B J j46 hx
        have lp : ∀ (cj cx : Nat), cx + cj = u1.length → rz_T w (d + 6) 0 0 m_Mod_isSame 0 0 196 [some (.ref a), some (.int (nI k1)), some (.int (nI k2)), some (.int (rz_b rb)), some (.int (rz_b wb)), some (.int (nI cx))] [] (re_put G a J (va_up B 48 (cp (B 48) (0) (B 49) (0) cx))) Q := by
          intro cj
          induction cj with
          | zero =>
            intro cx hij
            have hi : cx = u1.length := by omega
            subst hi
            refine rz_blk' [(.iload 5, 2, 0, 0), (.aload_n 0, 1, 0, 0), (.getfield 309, 3, 10, 46), (.if_icmp .ge 23, 3, 0, 0)] (by decide +kernel) (Nat.le_refl _) (Nat.le_refl _) (fun K R hK hR => ?_)
            simp only [↓rx_aload_n0, ↓rx_getfield, ↓rx_if_icmp_ge, ↓rx_iload, ↓rx_nil, ↓ry_i2, ↓ry_li0s, ↓ry_li0z, ↓ry_lr0s, ↓ry_lr0z, ↓ry_obu, ↓ry_r1, ↓re_F46, ↓re_ob, j46, rz_set, rz_nol, rz_clr, List.set_cons_zero, List.set_cons_succ, rz_tr, Nat.reduceAdd, Int.reduceAdd, Int.reduceToNat, Int.reduceSub, Int.reduceNeg, Int.cast_ofNat_Int]
            try simp (disch := omega) only [j46, pk_us, pk_un, va_up_self, va_up_ne, nI_add, pk_mul, nI_clamp, vp_inT, nI_ltI, nI_leI, nI_eqI, pk_sub, true_and, and_true]
            refine ⟨fun q6 => hK _ _ _ _ ?_, fun q6 => by omega⟩
            exact hx
          | succ cj ih =>
            intro cx hij
            refine rz_blk' [(.iload 5, 2, 0, 0), (.aload_n 0, 1, 0, 0), (.getfield 309, 3, 10, 46), (.if_icmp .ge 23, 3, 0, 0)] (by decide +kernel) (Nat.le_refl _) (Nat.le_refl _) (fun K R hK hR => ?_)
            simp only [↓rx_aload_n0, ↓rx_getfield, ↓rx_if_icmp_ge, ↓rx_iload, ↓rx_nil, ↓ry_i2, ↓ry_li0s, ↓ry_li0z, ↓ry_lr0s, ↓ry_lr0z, ↓ry_obu, ↓ry_r1, ↓re_F46, ↓re_ob, j46, rz_set, rz_nol, rz_clr, List.set_cons_zero, List.set_cons_succ, rz_tr, Nat.reduceAdd, Int.reduceAdd, Int.reduceToNat, Int.reduceSub, Int.reduceNeg, Int.cast_ofNat_Int]
            try simp (disch := omega) only [j46, pk_us, pk_un, va_up_self, va_up_ne, nI_add, pk_mul, nI_clamp, vp_inT, nI_ltI, nI_leI, nI_eqI, pk_sub, true_and, and_true]
            refine ⟨fun q7 => by omega, fun q7 => hK _ _ _ _ ?_⟩
            refine rz_blk' [(.aload_n 0, 1, 0, 0), (.getfield 126, 3, 10, 48), (.iload 5, 2, 0, 0), (.aload_n 0, 1, 0, 0), (.getfield 129, 3, 10, 49), (.iload 5, 2, 0, 0), (.iaload, 1, 0, 0), (.iastore, 1, 0, 0)] (by decide +kernel) (Nat.le_refl _) (Nat.le_refl _) (fun K R hK hR => ?_)
            simp only [↓rx_aload_n0, ↓rx_getfield, ↓rx_iaload, ↓rx_iastore, ↓rx_iload, ↓rx_nil, ↓ry_iau, ↓ry_li0s, ↓ry_li0z, ↓ry_lr0s, ↓ry_lr0z, ↓ry_obu, ↓ry_r1, ↓ry_ri, ↓ry_rii, true_and, re_a48, re_a49, ↓re_F48, ↓re_F49, ↓re_i48, ↓re_i49, ↓re_ob, j46, rz_set, rz_nol, rz_clr, List.set_cons_zero, List.set_cons_succ, rz_tr, Nat.reduceAdd, Int.reduceAdd, Int.reduceToNat, Int.reduceSub, Int.reduceNeg, Int.cast_ofNat_Int]
            try simp (disch := omega) only [j46, pk_us, pk_un, va_up_self, va_up_ne, nI_add, pk_mul, nI_clamp, vp_inT, nI_ltI, nI_leI, nI_eqI, pk_sub, true_and, and_true]
            refine hK _ _ _ _ ?_
            refine rz_blk' [(.iinc 5 1, 3, 0, 0)] (by decide +kernel) (Nat.le_refl _) (Nat.le_refl _) (fun K R hK hR => ?_)
            simp only [rw_c1, ↓rx_iinc, ↓rx_nil, ↓ry_li0s, ↓ry_li0z, j46, rz_set, rz_nol, rz_clr, List.set_cons_zero, List.set_cons_succ, rz_tr, Nat.reduceAdd, Int.reduceAdd, Int.reduceToNat, Int.reduceSub, Int.reduceNeg, Int.cast_ofNat_Int]
            try simp (disch := omega) only [j46, pk_us, pk_un, va_up_self, va_up_ne, nI_add, pk_mul, nI_clamp, vp_inT, nI_ltI, nI_leI, nI_eqI, pk_sub, true_and, and_true]
            refine hK _ _ _ _ ?_
            refine rz_blk' [(.goto (-26), 3, 0, 0)] (by decide +kernel) (Nat.le_refl _) (Nat.le_refl _) (fun K R hK hR => ?_)
            simp only [↓rx_goto, ↓rx_nil, j46, rz_set, rz_nol, rz_clr, List.set_cons_zero, List.set_cons_succ, rz_tr, Nat.reduceAdd, Int.reduceAdd, Int.reduceToNat, Int.reduceSub, Int.reduceNeg, Int.cast_ofNat_Int]
            try simp (disch := omega) only [j46, pk_us, pk_un, va_up_self, va_up_ne, nI_add, pk_mul, nI_clamp, vp_inT, nI_ltI, nI_leI, nI_eqI, pk_sub, true_and, and_true]
            refine hK _ _ _ _ ?_
            have ih := ih (cx + 1) (by omega)
            rw [← cp_s] at ih
            simp only [Nat.zero_add] at ih
            rw [re_vv]
            exact ih
        have := lp (u1.length) 0 (Nat.zero_add _)
        rw [cp_0, re_ve] at this
        exact this
      have hcp : rb = true → (wb = true → wd_bef u2 u1 = false) → rz_T w (d + 6) 0 0 m_Mod_isSame 0 0 185 [some (.ref a), some (.int (nI k1)), some (.int (nI k2)), some (.int (rz_b rb)), some (.int (rz_b wb)), none] [] (re_put G a I2 A2) Q := by
        intro hrb hwb
        obtain ⟨y1, y2⟩ := x8 hrb
        have hws : xw_s rb u1 wb u2 = u1 := by
          unfold xw_s
          rw [hrb, if_pos rfl]
          cases wb with
          | false => rfl
          | true => rw [hwb rfl]; rfl
        have hgo2 := htl rb wb u1 u2
        rw [hws] at hgo2
        refine rz_blk' [(.aload_n 0, 1, 0, 0), (.aload_n 0, 1, 0, 0), (.getfield 334, 3, 10, 47), (.putfield 309, 3, 10, 46)] (by decide +kernel) (Nat.le_refl _) (Nat.le_refl _) (fun K R hK hR => ?_)
        simp only [List.length_cons, List.length_nil, Nat.reduceLT, rf_10_46, ↓rx_aload_n0, ↓rx_getfield, ↓rx_nil, ↓rx_putfield, ↓ry_lr0s, ↓ry_lr0z, ↓ry_obu, ↓ry_r1, ↓ry_vr, true_and, re_len, re_u46, ↓re_F47, ↓re_ob, y1, rz_set, rz_nol, rz_clr, List.set_cons_zero, List.set_cons_succ, rz_tr, Nat.reduceAdd, Int.reduceAdd, Int.reduceToNat, Int.reduceSub, Int.reduceNeg, Int.cast_ofNat_Int]
        try simp (disch := omega) only [y1, rb_0, pk_us, pk_un, va_up_self, va_up_ne, nI_add, pk_mul, nI_clamp, vp_inT, nI_ltI, nI_leI, nI_eqI, pk_sub, true_and, and_true]
        refine hK _ _ _ _ ?_
        refine rz_blk' [(.iconst 0, 1, 0, 0), (.istore 5, 2, 0, 0)] (by decide +kernel) (Nat.le_refl _) (Nat.le_refl _) (fun K R hK hR => ?_)
        simp only [rw_c0, ↓rx_iconst, ↓rx_istore, ↓rx_nil, ↓ry_i1, y1, rz_set, rz_nol, rz_clr, List.set_cons_zero, List.set_cons_succ, rz_tr, Nat.reduceAdd, Int.reduceAdd, Int.reduceToNat, Int.reduceSub, Int.reduceNeg, Int.cast_ofNat_Int]
        try simp (disch := omega) only [y1, rb_0, pk_us, pk_un, va_up_self, va_up_ne, nI_add, pk_mul, nI_clamp, vp_inT, nI_ltI, nI_leI, nI_eqI, pk_sub, true_and, and_true]
        refine hK _ _ _ _ ?_
        refine c2 _ _ pk_us ?_
        refine rz_blk' [(.iload_n 3, 1, 0, 0), (.ifCond .ne 13, 3, 0, 0)] (by decide +kernel) (Nat.le_refl _) (Nat.le_refl _) (fun K R hK hR => ?_)
        simp only [↓rx_ifCond_ne, ↓rx_iload_n3, ↓rx_nil, ↓ry_i1, ↓ry_li0s, ↓ry_li0z, y1, rz_set, rz_nol, rz_clr, List.set_cons_zero, List.set_cons_succ, rz_tr, Nat.reduceAdd, Int.reduceAdd, Int.reduceToNat, Int.reduceSub, Int.reduceNeg, Int.cast_ofNat_Int]
        try simp (disch := omega) only [y1, rb_0, pk_us, pk_un, va_up_self, va_up_ne, nI_add, pk_mul, nI_clamp, vp_inT, nI_ltI, nI_leI, nI_eqI, pk_sub, true_and, and_true]
        refine ⟨fun q8 => hK _ _ _ _ ?_, fun q8 => hK _ _ _ _ ?_⟩
        · -- 226 taken
          first
            | exact hgo2 _ _ _ (i2.u rfl) (a2.u rfl) x1 x2 x3 x4 x5 pk_us (by rw [va_up_self]; exact sg_cp y2 (Nat.le_refl _))
            | (exfalso; rw [hrb] at @2; cases @2)
            | (exfalso; simp_all)
        · -- 226 not taken
          refine rz_blk' [(.iload 4, 2, 0, 0), (.ifCond .ne 8, 3, 0, 0)] (by decide +kernel) (Nat.le_refl _) (Nat.le_refl _) (fun K R hK hR => ?_)
          simp only [↓rx_ifCond_ne, ↓rx_iload, ↓rx_nil, ↓ry_i1, ↓ry_li0s, ↓ry_li0z, y1, rz_set, rz_nol, rz_clr, List.set_cons_zero, List.set_cons_succ, rz_tr, Nat.reduceAdd, Int.reduceAdd, Int.reduceToNat, Int.reduceSub, Int.reduceNeg, Int.cast_ofNat_Int]
          try simp (disch := omega) only [y1, rb_0, pk_us, pk_un, va_up_self, va_up_ne, nI_add, pk_mul, nI_clamp, vp_inT, nI_ltI, nI_leI, nI_eqI, pk_sub, true_and, and_true]
          refine ⟨fun q9 => hK _ _ _ _ ?_, fun q9 => hK _ _ _ _ ?_⟩
          · -- 231 taken
            first
              | exact hgo2 _ _ _ (i2.u rfl) (a2.u rfl) x1 x2 x3 x4 x5 pk_us (by rw [va_up_self]; exact sg_cp y2 (Nat.le_refl _))
              | (exfalso; rw [hrb] at q8; cases q8)
              | (exfalso; simp_all)
          · -- 231 not taken
            refine rz_blk' [(.aload_n 0, 1, 0, 0), (.iconst 0, 1, 0, 0), (.putfield 309, 3, 10, 46)] (by decide +kernel) (Nat.le_refl _) (Nat.le_refl _) (fun K R hK hR => ?_)
            simp only [List.length_cons, List.length_nil, Nat.reduceLT, rf_10_46, rw_c0, ↓rx_aload_n0, ↓rx_iconst, ↓rx_nil, ↓rx_putfield, ↓ry_lr0s, ↓ry_lr0z, ↓ry_obu, ↓ry_vr, true_and, re_len, re_u46, ↓re_ob, y1, rz_set, rz_nol, rz_clr, List.set_cons_zero, List.set_cons_succ, rz_tr, Nat.reduceAdd, Int.reduceAdd, Int.reduceToNat, Int.reduceSub, Int.reduceNeg, Int.cast_ofNat_Int]
            try simp (disch := omega) only [y1, rb_0, pk_us, pk_un, va_up_self, va_up_ne, nI_add, pk_mul, nI_clamp, vp_inT, nI_ltI, nI_leI, nI_eqI, pk_sub, true_and, and_true]
            refine hK _ _ _ _ ?_
            first
              | exact hgo2 _ _ _ (i2.u rfl) (a2.u rfl) x1 x2 x3 x4 x5 pk_us (by rw [va_up_self]; exact sg_cp y2 (Nat.le_refl _))
              | (exfalso; rw [hrb] at q8; cases q8)
              | (exfalso; simp_all)
      have hws2 := htl rb wb u1 u2
      refine rz_blk' [(.iload_n 3, 1, 0, 0), (.ifCond .eq 55, 3, 0, 0)] (by decide +kernel) (Nat.le_refl _) (Nat.le_refl _) (fun K R hK hR => ?_)
      simp only [↓rx_ifCond_eq, ↓rx_iload_n3, ↓rx_nil, ↓ry_i1, ↓ry_li0s, ↓ry_li0z, rz_set, rz_nol, rz_clr, List.set_cons_zero, List.set_cons_succ, rz_tr, Nat.reduceAdd, Int.reduceAdd, Int.reduceToNat, Int.reduceSub, Int.reduceNeg, Int.cast_ofNat_Int]
      try simp (disch := omega) only [rb_0, pk_us, pk_un, va_up_self, va_up_ne, nI_add, pk_mul, nI_clamp, vp_inT, nI_ltI, nI_leI, nI_eqI, pk_sub, true_and, and_true]
      refine ⟨fun q10 => hK _ _ _ _ ?_, fun q10 => hK _ _ _ _ ?_⟩
      · -- 170 taken
        refine rz_blk' [(.iload_n 3, 1, 0, 0), (.ifCond .ne 13, 3, 0, 0)] (by decide +kernel) (Nat.le_refl _) (Nat.le_refl _) (fun K R hK hR => ?_)
        simp only [↓rx_ifCond_ne, ↓rx_iload_n3, ↓rx_nil, ↓ry_i1, ↓ry_li0s, ↓ry_li0z, rz_set, rz_nol, rz_clr, List.set_cons_zero, List.set_cons_succ, rz_tr, Nat.reduceAdd, Int.reduceAdd, Int.reduceToNat, Int.reduceSub, Int.reduceNeg, Int.cast_ofNat_Int]
        try simp (disch := omega) only [rb_0, pk_us, pk_un, va_up_self, va_up_ne, nI_add, pk_mul, nI_clamp, vp_inT, nI_ltI, nI_leI, nI_eqI, pk_sub, true_and, and_true]
        refine ⟨fun q11 => hK _ _ _ _ ?_, fun q11 => hK _ _ _ _ ?_⟩
        · -- 226 taken
          first
            | (have e1 : rb = false := (by assumption)
               have e2 : wb = false := (by first | assumption | simpa using q11)
               have e : xw_s rb u1 wb u2 = [] := by rw [e1, e2]; rfl
               rw [e] at hws2
               exact hws2 _ _ _ (i2.u rfl) a2 x1 x2 x3 x4 (by simp) pk_us sg_nil)
            | (have e1 : rb = false := (by assumption)
               have e2 : wb = true := (by simpa using q11)
               have e : xw_s rb u1 wb u2 = u2 := by rw [e1, e2]; rfl
               rw [e] at hws2
               exact hws2 _ _ _ i2 a2 x1 x2 x3 x4 x6 (x7 e2).1 (x7 e2).2)
            | (have e1 : wd_bef u2 u1 = true := (by simpa using q10)
               have e : xw_s rb u1 wb u2 = u2 := by rw [hrbt, hwbt]; simp [xw_s, e1]
               rw [e] at hws2
               exact hws2 _ _ _ i2 a2 x1 x2 x3 x4 x6 (x7 hwbt).1 (x7 hwbt).2)
            | (exfalso; simp_all; done)
        · -- 226 not taken
          refine rz_blk' [(.iload 4, 2, 0, 0), (.ifCond .ne 8, 3, 0, 0)] (by decide +kernel) (Nat.le_refl _) (Nat.le_refl _) (fun K R hK hR => ?_)
          simp only [↓rx_ifCond_ne, ↓rx_iload, ↓rx_nil, ↓ry_i1, ↓ry_li0s, ↓ry_li0z, rz_set, rz_nol, rz_clr, List.set_cons_zero, List.set_cons_succ, rz_tr, Nat.reduceAdd, Int.reduceAdd, Int.reduceToNat, Int.reduceSub, Int.reduceNeg, Int.cast_ofNat_Int]
          try simp (disch := omega) only [rb_0, pk_us, pk_un, va_up_self, va_up_ne, nI_add, pk_mul, nI_clamp, vp_inT, nI_ltI, nI_leI, nI_eqI, pk_sub, true_and, and_true]
          refine ⟨fun q12 => hK _ _ _ _ ?_, fun q12 => hK _ _ _ _ ?_⟩
          · -- 231 taken
            first
              | (have e1 : rb = false := (by assumption)
                 have e2 : wb = false := (by first | assumption | simpa using q12)
                 have e : xw_s rb u1 wb u2 = [] := by rw [e1, e2]; rfl
                 rw [e] at hws2
                 exact hws2 _ _ _ (i2.u rfl) a2 x1 x2 x3 x4 (by simp) pk_us sg_nil)
              | (have e1 : rb = false := (by assumption)
                 have e2 : wb = true := (by simpa using q12)
                 have e : xw_s rb u1 wb u2 = u2 := by rw [e1, e2]; rfl
                 rw [e] at hws2
                 exact hws2 _ _ _ i2 a2 x1 x2 x3 x4 x6 (x7 e2).1 (x7 e2).2)
              | (have e1 : wd_bef u2 u1 = true := (by simpa using q11)
                 have e : xw_s rb u1 wb u2 = u2 := by rw [hrbt, hwbt]; simp [xw_s, e1]
                 rw [e] at hws2
                 exact hws2 _ _ _ i2 a2 x1 x2 x3 x4 x6 (x7 hwbt).1 (x7 hwbt).2)
              | (exfalso; simp_all; done)
          · -- 231 not taken
            refine rz_blk' [(.aload_n 0, 1, 0, 0), (.iconst 0, 1, 0, 0), (.putfield 309, 3, 10, 46)] (by decide +kernel) (Nat.le_refl _) (Nat.le_refl _) (fun K R hK hR => ?_)
            simp only [List.length_cons, List.length_nil, Nat.reduceLT, rf_10_46, rw_c0, ↓rx_aload_n0, ↓rx_iconst, ↓rx_nil, ↓rx_putfield, ↓ry_lr0s, ↓ry_lr0z, ↓ry_obu, ↓ry_vr, true_and, re_len, re_u46, ↓re_ob, rz_set, rz_nol, rz_clr, List.set_cons_zero, List.set_cons_succ, rz_tr, Nat.reduceAdd, Int.reduceAdd, Int.reduceToNat, Int.reduceSub, Int.reduceNeg, Int.cast_ofNat_Int]
            try simp (disch := omega) only [rb_0, pk_us, pk_un, va_up_self, va_up_ne, nI_add, pk_mul, nI_clamp, vp_inT, nI_ltI, nI_leI, nI_eqI, pk_sub, true_and, and_true]
            refine hK _ _ _ _ ?_
            first
              | (have e1 : rb = false := (by assumption)
                 have e2 : wb = false := (by first | assumption | simpa using q12)
                 have e : xw_s rb u1 wb u2 = [] := by rw [e1, e2]; rfl
                 rw [e] at hws2
                 exact hws2 _ _ _ (i2.u rfl) a2 x1 x2 x3 x4 (by simp) pk_us sg_nil)
              | (have e1 : rb = false := (by assumption)
                 have e2 : wb = true := (by simpa using q12)
                 have e : xw_s rb u1 wb u2 = u2 := by rw [e1, e2]; rfl
                 rw [e] at hws2
                 exact hws2 _ _ _ i2 a2 x1 x2 x3 x4 x6 (x7 e2).1 (x7 e2).2)
              | (have e1 : wd_bef u2 u1 = true := (by simpa using q11)
                 have e : xw_s rb u1 wb u2 = u2 := by rw [hrbt, hwbt]; simp [xw_s, e1]
                 rw [e] at hws2
                 exact hws2 _ _ _ i2 a2 x1 x2 x3 x4 x6 (x7 hwbt).1 (x7 hwbt).2)
              | (exfalso; simp_all; done)
      · -- 170 not taken
        refine rz_blk' [(.iload 4, 2, 0, 0), (.ifCond .eq 10, 3, 0, 0)] (by decide +kernel) (Nat.le_refl _) (Nat.le_refl _) (fun K R hK hR => ?_)
        simp only [↓rx_ifCond_eq, ↓rx_iload, ↓rx_nil, ↓ry_i1, ↓ry_li0s, ↓ry_li0z, rz_set, rz_nol, rz_clr, List.set_cons_zero, List.set_cons_succ, rz_tr, Nat.reduceAdd, Int.reduceAdd, Int.reduceToNat, Int.reduceSub, Int.reduceNeg, Int.cast_ofNat_Int]
        try simp (disch := omega) only [rb_0, pk_us, pk_un, va_up_self, va_up_ne, nI_add, pk_mul, nI_clamp, vp_inT, nI_ltI, nI_leI, nI_eqI, pk_sub, true_and, and_true]
        refine ⟨fun q13 => hK _ _ _ _ ?_, fun q13 => hK _ _ _ _ ?_⟩
        · -- 175 taken
          first
            | exact hcp (by simpa using q10) (fun q => by rw [(by assumption : wb = false)] at q; cases q)
            | exact hcp (by simpa using @3) (fun _ => q13)
        · -- 175 not taken
          have hwbt : wb = true := by simpa using q13
          have hrbt : rb = true := by simpa using q10
          obtain ⟨y1, y2⟩ := x7 hwbt
          obtain ⟨y3, y4⟩ := x8 hrbt
          have hwbf := c_Mod_isWordBefore (w := w) (d := d + 5) (G := G) (a := a) y1 y2 y3 y4 x6 x5 x4 x3
          refine rz_blk' [(.aload_n 0, 1, 0, 0)] (by decide +kernel) (Nat.le_refl _) (Nat.le_refl _) (fun K R hK hR => ?_)
          simp only [↓rx_aload_n0, ↓rx_nil, ↓ry_lr0s, ↓ry_lr0z, rz_set, rz_nol, rz_clr, List.set_cons_zero, List.set_cons_succ, rz_tr, Nat.reduceAdd, Int.reduceAdd, Int.reduceToNat, Int.reduceSub, Int.reduceNeg, Int.cast_ofNat_Int]
          try simp (disch := omega) only [rb_0, pk_us, pk_un, va_up_self, va_up_ne, nI_add, pk_mul, nI_clamp, vp_inT, nI_ltI, nI_leI, nI_eqI, pk_sub, true_and, and_true]
          refine hK _ _ _ _ ?_
          refine rz_cV (As := []) (b := a) (S := []) l_Mod_341 (by decide +kernel) rfl re_at0 rfl (Nat.le_of_ble_eq_true rfl) (Nat.le_refl _) (Nat.le_refl _) (hwbf) (fun r G' hr => ?_)
          obtain ⟨rfl, rfl⟩ := hr
          simp only [Option.toList, List.cons_append, List.nil_append]
          refine rz_blk' [(.ifCond .ne 43, 3, 0, 0)] (by decide +kernel) (Nat.le_refl _) (Nat.le_refl _) (fun K R hK hR => ?_)
          simp only [↓rx_ifCond_ne, ↓rx_nil, ↓ry_i1, rz_set, rz_nol, rz_clr, List.set_cons_zero, List.set_cons_succ, rz_tr, Nat.reduceAdd, Int.reduceAdd, Int.reduceToNat, Int.reduceSub, Int.reduceNeg, Int.cast_ofNat_Int]
          try simp (disch := omega) only [rb_0, pk_us, pk_un, va_up_self, va_up_ne, nI_add, pk_mul, nI_clamp, vp_inT, nI_ltI, nI_leI, nI_eqI, pk_sub, true_and, and_true]
          refine ⟨fun q14 => hK _ _ _ _ ?_, fun q14 => hK _ _ _ _ ?_⟩
          · -- 182 taken
            refine rz_blk' [(.iload_n 3, 1, 0, 0), (.ifCond .ne 13, 3, 0, 0)] (by decide +kernel) (Nat.le_refl _) (Nat.le_refl _) (fun K R hK hR => ?_)
            simp only [↓rx_ifCond_ne, ↓rx_iload_n3, ↓rx_nil, ↓ry_i1, ↓ry_li0s, ↓ry_li0z, rz_set, rz_nol, rz_clr, List.set_cons_zero, List.set_cons_succ, rz_tr, Nat.reduceAdd, Int.reduceAdd, Int.reduceToNat, Int.reduceSub, Int.reduceNeg, Int.cast_ofNat_Int]
            try simp (disch := omega) only [rb_0, pk_us, pk_un, va_up_self, va_up_ne, nI_add, pk_mul, nI_clamp, vp_inT, nI_ltI, nI_leI, nI_eqI, pk_sub, true_and, and_true]
            refine ⟨fun q15 => hK _ _ _ _ ?_, fun q15 => hK _ _ _ _ ?_⟩
            · -- 226 taken
              first
                | (have e1 : rb = false := (by assumption)
                   have e2 : wb = false := (by first | assumption | simpa using q15)
                   have e : xw_s rb u1 wb u2 = [] := by rw [e1, e2]; rfl
                   rw [e] at hws2
                   exact hws2 _ _ _ (i2.u rfl) a2 x1 x2 x3 x4 (by simp) pk_us sg_nil)
                | (have e1 : rb = false := (by assumption)
                   have e2 : wb = true := (by simpa using q15)
                   have e : xw_s rb u1 wb u2 = u2 := by rw [e1, e2]; rfl
                   rw [e] at hws2
                   exact hws2 _ _ _ i2 a2 x1 x2 x3 x4 x6 (x7 e2).1 (x7 e2).2)
                | (have e1 : wd_bef u2 u1 = true := (by simpa using q14)
                   have e : xw_s rb u1 wb u2 = u2 := by rw [hrbt, hwbt]; simp [xw_s, e1]
                   rw [e] at hws2
                   exact hws2 _ _ _ i2 a2 x1 x2 x3 x4 x6 (x7 hwbt).1 (x7 hwbt).2)
                | (exfalso; simp_all; done)
            · -- 226 not taken
              refine rz_blk' [(.iload 4, 2, 0, 0), (.ifCond .ne 8, 3, 0, 0)] (by decide +kernel) (Nat.le_refl _) (Nat.le_refl _) (fun K R hK hR => ?_)
              simp only [↓rx_ifCond_ne, ↓rx_iload, ↓rx_nil, ↓ry_i1, ↓ry_li0s, ↓ry_li0z, rz_set, rz_nol, rz_clr, List.set_cons_zero, List.set_cons_succ, rz_tr, Nat.reduceAdd, Int.reduceAdd, Int.reduceToNat, Int.reduceSub, Int.reduceNeg, Int.cast_ofNat_Int]
              try simp (disch := omega) only [rb_0, pk_us, pk_un, va_up_self, va_up_ne, nI_add, pk_mul, nI_clamp, vp_inT, nI_ltI, nI_leI, nI_eqI, pk_sub, true_and, and_true]
              refine ⟨fun q16 => hK _ _ _ _ ?_, fun q16 => hK _ _ _ _ ?_⟩
              · -- 231 taken
                first
                  | (have e1 : rb = false := (by assumption)
                     have e2 : wb = false := (by first | assumption | simpa using q16)
                     have e : xw_s rb u1 wb u2 = [] := by rw [e1, e2]; rfl
                     rw [e] at hws2
                     exact hws2 _ _ _ (i2.u rfl) a2 x1 x2 x3 x4 (by simp) pk_us sg_nil)
                  | (have e1 : rb = false := (by assumption)
                     have e2 : wb = true := (by simpa using q16)
                     have e : xw_s rb u1 wb u2 = u2 := by rw [e1, e2]; rfl
                     rw [e] at hws2
                     exact hws2 _ _ _ i2 a2 x1 x2 x3 x4 x6 (x7 e2).1 (x7 e2).2)
                  | (have e1 : wd_bef u2 u1 = true := (by simpa using q15)
                     have e : xw_s rb u1 wb u2 = u2 := by rw [hrbt, hwbt]; simp [xw_s, e1]
                     rw [e] at hws2
                     exact hws2 _ _ _ i2 a2 x1 x2 x3 x4 x6 (x7 hwbt).1 (x7 hwbt).2)
                  | (exfalso; simp_all; done)
              · -- 231 not taken
                refine rz_blk' [(.aload_n 0, 1, 0, 0), (.iconst 0, 1, 0, 0), (.putfield 309, 3, 10, 46)] (by decide +kernel) (Nat.le_refl _) (Nat.le_refl _) (fun K R hK hR => ?_)
                simp only [List.length_cons, List.length_nil, Nat.reduceLT, rf_10_46, rw_c0, ↓rx_aload_n0, ↓rx_iconst, ↓rx_nil, ↓rx_putfield, ↓ry_lr0s, ↓ry_lr0z, ↓ry_obu, ↓ry_vr, true_and, re_len, re_u46, ↓re_ob, rz_set, rz_nol, rz_clr, List.set_cons_zero, List.set_cons_succ, rz_tr, Nat.reduceAdd, Int.reduceAdd, Int.reduceToNat, Int.reduceSub, Int.reduceNeg, Int.cast_ofNat_Int]
                try simp (disch := omega) only [rb_0, pk_us, pk_un, va_up_self, va_up_ne, nI_add, pk_mul, nI_clamp, vp_inT, nI_ltI, nI_leI, nI_eqI, pk_sub, true_and, and_true]
                refine hK _ _ _ _ ?_
                first
                  | (have e1 : rb = false := (by assumption)
                     have e2 : wb = false := (by first | assumption | simpa using q16)
                     have e : xw_s rb u1 wb u2 = [] := by rw [e1, e2]; rfl
                     rw [e] at hws2
                     exact hws2 _ _ _ (i2.u rfl) a2 x1 x2 x3 x4 (by simp) pk_us sg_nil)
                  | (have e1 : rb = false := (by assumption)
                     have e2 : wb = true := (by simpa using q16)
                     have e : xw_s rb u1 wb u2 = u2 := by rw [e1, e2]; rfl
                     rw [e] at hws2
                     exact hws2 _ _ _ i2 a2 x1 x2 x3 x4 x6 (x7 e2).1 (x7 e2).2)
                  | (have e1 : wd_bef u2 u1 = true := (by simpa using q15)
                     have e : xw_s rb u1 wb u2 = u2 := by rw [hrbt, hwbt]; simp [xw_s, e1]
                     rw [e] at hws2
                     exact hws2 _ _ _ i2 a2 x1 x2 x3 x4 x6 (x7 hwbt).1 (x7 hwbt).2)
                  | (exfalso; simp_all; done)
          · -- 182 not taken
            first
              | exact hcp (by simpa using q13) (fun q => by rw [(by assumption : wb = false)] at q; cases q)
              | exact hcp (by simpa using q10) (fun _ => q14)
    have hC : ∀ (rb : Bool) (u1 : List Nat) (I2 : Nat → Int32) (A2 : Nat → Nat → Int32) (z4 : Option Value), fi [26, 27, 30, 38, 41, 42, 46, 47] I0 I2 → fa [14, 15, 16, 17, 18, 19, 20, 21, 22, 23, 24, 25, 26, 27, 28, 29, 30, 31, 32, 33, 34, 35, 36, 37, 38, 39, 40, 41, 42, 43, 44, 45, 46, 47, 48, 49] A A2 → re_t A2 0 T1 → re_t A2 1 T2 → xl_is T1 T2 (if T1.1.testBit 0 = true then 1 else 0) (if T2.1.testBit 0 = true then 1 else 0) rb u1 → (∀ t ∈ u1, t < 3) → u1.length ≤ 4096 → (rb = true → I2 47 = nI u1.length ∧ sg (A2 49) 0 u1) → rz_T w (d + 6) 0 0 m_Mod_isSame 0 0 148 [some (.ref a), some (.int (nI k1)), some (.int (nI k2)), some (.int (rz_b rb)), z4, none] [] (re_put G a I2 A2) Q := by
      intro rb u1 I2 A2 z4 i2 a2 t1 t2 x1 x2 x3 x4
      have hds := c_Mod_differsFromStart (w := w) (d := d + 1) (G := G) (a := a) (I := I2) (A := A2) (g := 0) (hh := 1) (by decide) (by decide) t1 t2 htw1 htw2
      refine rz_blk' [(.aload_n 0, 1, 0, 0), (.iconst 0, 1, 0, 0), (.iconst 1, 1, 0, 0)] (by decide +kernel) (Nat.le_refl _) (Nat.le_refl _) (fun K R hK hR => ?_)
      simp only [rw_c0, rw_c1, ↓rx_aload_n0, ↓rx_iconst, ↓rx_nil, ↓ry_lr0s, ↓ry_lr0z, rz_set, rz_nol, rz_clr, List.set_cons_zero, List.set_cons_succ, rz_tr, Nat.reduceAdd, Int.reduceAdd, Int.reduceToNat, Int.reduceSub, Int.reduceNeg, Int.cast_ofNat_Int]
      try simp (disch := omega) only [rb_0, pk_us, pk_un, va_up_self, va_up_ne, nI_add, pk_mul, nI_clamp, vp_inT, nI_ltI, nI_leI, nI_eqI, pk_sub, true_and, and_true]
      refine hK _ _ _ _ ?_
      refine rz_cV (As := [.int (nI 0), .int (nI 1)]) (b := a) (S := []) l_Mod_312 (by decide +kernel) rfl re_at0 rfl (Nat.le_of_ble_eq_true rfl) (Nat.le_refl _) (Nat.le_refl _) (hds) (fun r G' hr => ?_)
      obtain ⟨I3, A3, wb, u2, rfl, rfl, i3, a3, W, kk, y1, y2, y3, y4, y5⟩ := hr
      simp only [Option.toList, List.cons_append, List.nil_append]
      have hl2 := xw_len y2 kk kk u2 (Nat.le_refl _) y4
      have hkl2 := (List.getElem?_eq_some_iff.mp y4).1
      refine rz_blk' [(.istore 4, 2, 0, 0)] (by decide +kernel) (Nat.le_refl _) (Nat.le_refl _) (fun K R hK hR => ?_)
      simp only [↓rx_istore, ↓rx_nil, ↓ry_i1, rz_set, rz_nol, rz_clr, List.set_cons_zero, List.set_cons_succ, rz_tr, Nat.reduceAdd, Int.reduceAdd, Int.reduceToNat, Int.reduceSub, Int.reduceNeg, Int.cast_ofNat_Int]
      try simp (disch := omega) only [rb_0, pk_us, pk_un, va_up_self, va_up_ne, nI_add, pk_mul, nI_clamp, vp_inT, nI_ltI, nI_leI, nI_eqI, pk_sub, true_and, and_true]
      refine hK _ _ _ _ ?_
      refine rz_blk' [(.iload 4, 2, 0, 0), (.ifCond .eq 11, 3, 0, 0)] (by decide +kernel) (Nat.le_refl _) (Nat.le_refl _) (fun K R hK hR => ?_)
      simp only [↓rx_ifCond_eq, ↓rx_iload, ↓rx_nil, ↓ry_i1, ↓ry_li0s, ↓ry_li0z, rz_set, rz_nol, rz_clr, List.set_cons_zero, List.set_cons_succ, rz_tr, Nat.reduceAdd, Int.reduceAdd, Int.reduceToNat, Int.reduceSub, Int.reduceNeg, Int.cast_ofNat_Int]
      try simp (disch := omega) only [rb_0, pk_us, pk_un, va_up_self, va_up_ne, nI_add, pk_mul, nI_clamp, vp_inT, nI_ltI, nI_leI, nI_eqI, pk_sub, true_and, and_true]
      refine ⟨fun q17 => hK _ _ _ _ ?_, fun q17 => hK _ _ _ _ ?_⟩
      · -- 158 taken
        refine hE rb wb u1 u2 I3 A3 (i2.t i3 rfl) (a2.t a3 rfl) x1 y5 x2 hl2.2 x3 (by omega) (fun q => ?_) (fun hrb => ?_)
        · rw [(by assumption : wb = false)] at q; cases q
        · rw [i3 47 rfl, a3 49 rfl]; exact x4 hrb
      · -- 158 not taken
        have hwbt : wb = true := by simpa using q17
        have y1 := y1 hwbt
        have hsp := c_Mod_spell (w := w) (d := d + 5) (G := G) (a := a) (I := I3) (A := A3) y2 y4
        refine rz_blk' [(.aload_n 0, 1, 0, 0), (.aload_n 0, 1, 0, 0), (.getfield 293, 3, 10, 41)] (by decide +kernel) (Nat.le_refl _) (Nat.le_refl _) (fun K R hK hR => ?_)
        simp only [↓rx_aload_n0, ↓rx_getfield, ↓rx_nil, ↓ry_lr0s, ↓ry_lr0z, ↓ry_obu, ↓ry_r1, ↓re_F41, ↓re_ob, y1, rz_set, rz_nol, rz_clr, List.set_cons_zero, List.set_cons_succ, rz_tr, Nat.reduceAdd, Int.reduceAdd, Int.reduceToNat, Int.reduceSub, Int.reduceNeg, Int.cast_ofNat_Int]
        try simp (disch := omega) only [y1, rb_0, pk_us, pk_un, va_up_self, va_up_ne, nI_add, pk_mul, nI_clamp, vp_inT, nI_ltI, nI_leI, nI_eqI, pk_sub, true_and, and_true]
        refine hK _ _ _ _ ?_
        refine rz_cV (As := [.int (nI kk)]) (b := a) (S := []) l_Mod_318 (by decide +kernel) rfl re_at0 rfl (Nat.le_of_ble_eq_true rfl) (Nat.le_refl _) (Nat.le_refl _) (hsp) (fun r G' hr => ?_)
        obtain ⟨rfl, I4, A4, rfl, i4, a4, y6, y7⟩ := hr
        simp only [Option.toList, List.nil_append]
        refine hE rb wb u1 u2 I4 A4 ((i2.t i3 rfl).t i4 rfl) ((a2.t a3 rfl).t a4 rfl) x1 y5 x2 hl2.2 x3 (by omega) (fun _ => ⟨y6, y7⟩) (fun hrb => ?_)
        rw [i4 47 rfl, i3 47 rfl, a4 49 rfl, a3 49 rfl]; exact x4 hrb
    have htk1 := c_Mod_take (w := w) (d := d + 3) (G := G) (a := a) (I := I1) (A := A1) (k := k1) (hh := 0) hk1 (by decide) (re_m_keep hm1 (fun f x ho => by rw [a1 f (by unfold re_own at ho; simp; omega)]))
    rw [hT1] at htk1
    have hrd : ∀ (A2 : Nat → Nat → Int32), fa [14, 15, 16, 17, 18, 19, 20, 21, 22, 23, 24, 25, 26, 27, 28, 29, 30, 31, 32, 33, 34, 35, 36, 37, 38, 39, 40, 41, 42, 43, 44, 45, 46, 47, 48, 49] A A2 → re_t A2 0 T1 → re_t A2 1 T2 → rz_T w (d + 6) 0 0 m_Mod_isSame 0 0 92 [some (.ref a), some (.int (nI k1)), some (.int (nI k2)), none, none, none] [.int (nI 1), .int (nI 0), .int (nI (if T2.1.testBit 0 = true then 1 else 0)), .int (nI (if T1.1.testBit 0 = true then 1 else 0)), .ref a] (re_put G a I1 A2) Q := by
      intro A2 a2 t1 t2
      have hra := c_Mod_readsApart (w := w) (d := d + 4) (G := G) (a := a) (I := I1) (A := A2) (g := 0) (hh := 1) (s1 := (if T1.1.testBit 0 = true then 1 else 0)) (s2 := (if T2.1.testBit 0 = true then 1 else 0)) (by decide) (by decide) t1 t2 htw1' htw2' (by split <;> decide) (by split <;> decide)
      have c1 : ∀ (B : Nat → Nat → Int32) (n : Nat) (J : Nat → Int32) (z3 : Int32), n ≤ 4100 → J 46 = nI n → rz_T w (d + 6) 0 0 m_Mod_isSame 0 0 148 [some (.ref a), some (.int (nI k1)), some (.int (nI k2)), some (.int z3), some (.int (nI (n))), none] [] (re_put G a J (va_up B 49 (cp (B 49) (0) (B 48) (0) (n)))) Q → rz_T w (d + 6) 0 0 m_Mod_isSame 0 0 119 [some (.ref a), some (.int (nI k1)), some (.int (nI k2)), some (.int z3), some (.int (nI 0)), none] [] (re_put G a J B) Q := by
        intro B n J z3 hn j46x hx
        have lp : ∀ (cj cx : Nat), cx + cj = n → rz_T w (d + 6) 0 0 m_Mod_isSame 0 0 119 [some (.ref a), some (.int (nI k1)), some (.int (nI k2)), some (.int z3), some (.int (nI cx)), none] [] (re_put G a J (va_up B 49 (cp (B 49) (0) (B 48) (0) cx))) Q := by
          intro cj
          induction cj with
          | zero =>
            intro cx hij
            have hi : cx = n := by omega
            rw [hi]
            refine rz_blk' [(.iload 4, 2, 0, 0), (.aload_n 0, 1, 0, 0), (.getfield 309, 3, 10, 46), (.if_icmp .ge 23, 3, 0, 0)] (by decide +kernel) (Nat.le_refl _) (Nat.le_refl _) (fun K R hK hR => ?_)
            simp only [↓rx_aload_n0, ↓rx_getfield, ↓rx_if_icmp_ge, ↓rx_iload, ↓rx_nil, ↓ry_i2, ↓ry_li0s, ↓ry_li0z, ↓ry_lr0s, ↓ry_lr0z, ↓ry_obu, ↓ry_r1, ↓re_F46, ↓re_ob, j46x, rz_set, rz_nol, rz_clr, List.set_cons_zero, List.set_cons_succ, rz_tr, Nat.reduceAdd, Int.reduceAdd, Int.reduceToNat, Int.reduceSub, Int.reduceNeg, Int.cast_ofNat_Int]
            try simp (disch := omega) only [j46x, pk_us, pk_un, va_up_self, va_up_ne, nI_add, pk_mul, nI_clamp, vp_inT, nI_ltI, nI_leI, nI_eqI, pk_sub, true_and, and_true]
            refine ⟨fun q18 => hK _ _ _ _ ?_, fun q18 => by omega⟩
            exact hx
          | succ cj ih =>
            intro cx hij
            refine rz_blk' [(.iload 4, 2, 0, 0), (.aload_n 0, 1, 0, 0), (.getfield 309, 3, 10, 46), (.if_icmp .ge 23, 3, 0, 0)] (by decide +kernel) (Nat.le_refl _) (Nat.le_refl _) (fun K R hK hR => ?_)
            simp only [↓rx_aload_n0, ↓rx_getfield, ↓rx_if_icmp_ge, ↓rx_iload, ↓rx_nil, ↓ry_i2, ↓ry_li0s, ↓ry_li0z, ↓ry_lr0s, ↓ry_lr0z, ↓ry_obu, ↓ry_r1, ↓re_F46, ↓re_ob, j46x, rz_set, rz_nol, rz_clr, List.set_cons_zero, List.set_cons_succ, rz_tr, Nat.reduceAdd, Int.reduceAdd, Int.reduceToNat, Int.reduceSub, Int.reduceNeg, Int.cast_ofNat_Int]
            try simp (disch := omega) only [j46x, pk_us, pk_un, va_up_self, va_up_ne, nI_add, pk_mul, nI_clamp, vp_inT, nI_ltI, nI_leI, nI_eqI, pk_sub, true_and, and_true]
            refine ⟨fun q19 => by omega, fun q19 => hK _ _ _ _ ?_⟩
            refine rz_blk' [(.aload_n 0, 1, 0, 0), (.getfield 129, 3, 10, 49), (.iload 4, 2, 0, 0), (.aload_n 0, 1, 0, 0), (.getfield 126, 3, 10, 48), (.iload 4, 2, 0, 0), (.iaload, 1, 0, 0), (.iastore, 1, 0, 0)] (by decide +kernel) (Nat.le_refl _) (Nat.le_refl _) (fun K R hK hR => ?_)
            simp only [↓rx_aload_n0, ↓rx_getfield, ↓rx_iaload, ↓rx_iastore, ↓rx_iload, ↓rx_nil, ↓ry_iau, ↓ry_li0s, ↓ry_li0z, ↓ry_lr0s, ↓ry_lr0z, ↓ry_obu, ↓ry_r1, ↓ry_ri, ↓ry_rii, true_and, re_a48, re_a49, ↓re_F48, ↓re_F49, ↓re_i48, ↓re_i49, ↓re_ob, j46x, rz_set, rz_nol, rz_clr, List.set_cons_zero, List.set_cons_succ, rz_tr, Nat.reduceAdd, Int.reduceAdd, Int.reduceToNat, Int.reduceSub, Int.reduceNeg, Int.cast_ofNat_Int]
            try simp (disch := omega) only [j46x, pk_us, pk_un, va_up_self, va_up_ne, nI_add, pk_mul, nI_clamp, vp_inT, nI_ltI, nI_leI, nI_eqI, pk_sub, true_and, and_true]
            refine hK _ _ _ _ ?_
            refine rz_blk' [(.iinc 4 1, 3, 0, 0)] (by decide +kernel) (Nat.le_refl _) (Nat.le_refl _) (fun K R hK hR => ?_)
            simp only [rw_c1, ↓rx_iinc, ↓rx_nil, ↓ry_li0s, ↓ry_li0z, j46x, rz_set, rz_nol, rz_clr, List.set_cons_zero, List.set_cons_succ, rz_tr, Nat.reduceAdd, Int.reduceAdd, Int.reduceToNat, Int.reduceSub, Int.reduceNeg, Int.cast_ofNat_Int]
            try simp (disch := omega) only [j46x, pk_us, pk_un, va_up_self, va_up_ne, nI_add, pk_mul, nI_clamp, vp_inT, nI_ltI, nI_leI, nI_eqI, pk_sub, true_and, and_true]
            refine hK _ _ _ _ ?_
            refine rz_blk' [(.goto (-26), 3, 0, 0)] (by decide +kernel) (Nat.le_refl _) (Nat.le_refl _) (fun K R hK hR => ?_)
            simp only [↓rx_goto, ↓rx_nil, j46x, rz_set, rz_nol, rz_clr, List.set_cons_zero, List.set_cons_succ, rz_tr, Nat.reduceAdd, Int.reduceAdd, Int.reduceToNat, Int.reduceSub, Int.reduceNeg, Int.cast_ofNat_Int]
            try simp (disch := omega) only [j46x, pk_us, pk_un, va_up_self, va_up_ne, nI_add, pk_mul, nI_clamp, vp_inT, nI_ltI, nI_leI, nI_eqI, pk_sub, true_and, and_true]
            refine hK _ _ _ _ ?_
            have ih := ih (cx + 1) (by omega)
            rw [← cp_s] at ih
            simp only [Nat.zero_add] at ih
            rw [re_vv]
            exact ih
        have := lp (n) 0 (Nat.zero_add _)
        rw [cp_0, re_ve] at this
        exact this
      refine rz_cV (As := [.int (nI (if T1.1.testBit 0 = true then 1 else 0)), .int (nI (if T2.1.testBit 0 = true then 1 else 0)), .int (nI 0), .int (nI 1)]) (b := a) (S := []) l_Mod_337 (by decide +kernel) rfl re_at0 rfl (Nat.le_of_ble_eq_true rfl) (Nat.le_refl _) (Nat.le_refl _) (hra) (fun r G' hr => ?_)
      obtain ⟨I3, A3, rb, u1, rfl, rfl, i3, a3, x1, W, kk, y1, y2, y3, y4⟩ := hr
      have hl1 := xw_len y2 kk kk u1 (Nat.le_refl _) y4
      have hkl1 := (List.getElem?_eq_some_iff.mp y4).1
      have t1' := re_t_fa t1 a3 rfl
      have t2' := re_t_fa t2 a3 rfl
      have e46 : I3 46 = nI n46 := by rw [i3 46 rfl, j46]; exact hI46
      simp only [Option.toList, List.cons_append, List.nil_append]
      refine rz_blk' [(.istore_n 3, 1, 0, 0)] (by decide +kernel) (Nat.le_refl _) (Nat.le_refl _) (fun K R hK hR => ?_)
      simp only [↓rx_istore_n3, ↓rx_nil, ↓ry_i1, e46, rz_set, rz_nol, rz_clr, List.set_cons_zero, List.set_cons_succ, rz_tr, Nat.reduceAdd, Int.reduceAdd, Int.reduceToNat, Int.reduceSub, Int.reduceNeg, Int.cast_ofNat_Int]
      try simp (disch := omega) only [e46, rb_0, pk_us, pk_un, va_up_self, va_up_ne, nI_add, pk_mul, nI_clamp, vp_inT, nI_ltI, nI_leI, nI_eqI, pk_sub, true_and, and_true]
      refine hK _ _ _ _ ?_
      refine rz_blk' [(.iload_n 3, 1, 0, 0), (.ifCond .eq 11, 3, 0, 0)] (by decide +kernel) (Nat.le_refl _) (Nat.le_refl _) (fun K R hK hR => ?_)
      simp only [↓rx_ifCond_eq, ↓rx_iload_n3, ↓rx_nil, ↓ry_i1, ↓ry_li0s, ↓ry_li0z, e46, rz_set, rz_nol, rz_clr, List.set_cons_zero, List.set_cons_succ, rz_tr, Nat.reduceAdd, Int.reduceAdd, Int.reduceToNat, Int.reduceSub, Int.reduceNeg, Int.cast_ofNat_Int]
      try simp (disch := omega) only [e46, rb_0, pk_us, pk_un, va_up_self, va_up_ne, nI_add, pk_mul, nI_clamp, vp_inT, nI_ltI, nI_leI, nI_eqI, pk_sub, true_and, and_true]
      refine ⟨fun q20 => hK _ _ _ _ ?_, fun q20 => hK _ _ _ _ ?_⟩
      · -- 97 taken
        refine rz_blk' [(.aload_n 0, 1, 0, 0), (.aload_n 0, 1, 0, 0), (.getfield 309, 3, 10, 46), (.putfield 334, 3, 10, 47)] (by decide +kernel) (Nat.le_refl _) (Nat.le_refl _) (fun K R hK hR => ?_)
        simp only [List.length_cons, List.length_nil, Nat.reduceLT, rf_10_47, ↓rx_aload_n0, ↓rx_getfield, ↓rx_nil, ↓rx_putfield, ↓ry_lr0s, ↓ry_lr0z, ↓ry_obu, ↓ry_r1, ↓ry_vr, true_and, re_len, re_u47, ↓re_F46, ↓re_ob, e46, rz_set, rz_nol, rz_clr, List.set_cons_zero, List.set_cons_succ, rz_tr, Nat.reduceAdd, Int.reduceAdd, Int.reduceToNat, Int.reduceSub, Int.reduceNeg, Int.cast_ofNat_Int]
        try simp (disch := omega) only [e46, rb_0, pk_us, pk_un, va_up_self, va_up_ne, nI_add, pk_mul, nI_clamp, vp_inT, nI_ltI, nI_leI, nI_eqI, pk_sub, true_and, and_true]
        refine hK _ _ _ _ ?_
        refine rz_blk' [(.iconst 0, 1, 0, 0), (.istore 4, 2, 0, 0)] (by decide +kernel) (Nat.le_refl _) (Nat.le_refl _) (fun K R hK hR => ?_)
        simp only [rw_c0, ↓rx_iconst, ↓rx_istore, ↓rx_nil, ↓ry_i1, e46, rz_set, rz_nol, rz_clr, List.set_cons_zero, List.set_cons_succ, rz_tr, Nat.reduceAdd, Int.reduceAdd, Int.reduceToNat, Int.reduceSub, Int.reduceNeg, Int.cast_ofNat_Int]
        try simp (disch := omega) only [e46, rb_0, pk_us, pk_un, va_up_self, va_up_ne, nI_add, pk_mul, nI_clamp, vp_inT, nI_ltI, nI_leI, nI_eqI, pk_sub, true_and, and_true]
        refine hK _ _ _ _ ?_
        refine c1 _ n46 _ _ (by omega) (by rw [pk_un (by decide)]; exact e46) ?_
        refine hC rb u1 _ _ _ ((i1.t i3 rfl).u rfl) ((a2.t a3 rfl).u rfl) ?_ ?_ x1 hl1.2 (by omega) (fun q => ?_)
        · exact re_t_fa (K := [49]) t1' (fa.rf.u rfl) rfl
        · exact re_t_fa (K := [49]) t2' (fa.rf.u rfl) rfl
        · rw [(by assumption : rb = false)] at q; cases q
      · -- 97 not taken
        have hrbt : rb = true := by simpa using q20
        have y1 := y1 hrbt
        have hsp := c_Mod_spell (w := w) (d := d + 5) (G := G) (a := a) (I := I3) (A := A3) y2 y4
        refine rz_blk' [(.aload_n 0, 1, 0, 0), (.aload_n 0, 1, 0, 0), (.getfield 293, 3, 10, 41)] (by decide +kernel) (Nat.le_refl _) (Nat.le_refl _) (fun K R hK hR => ?_)
        simp only [↓rx_aload_n0, ↓rx_getfield, ↓rx_nil, ↓ry_lr0s, ↓ry_lr0z, ↓ry_obu, ↓ry_r1, ↓re_F41, ↓re_ob, e46, y1, rz_set, rz_nol, rz_clr, List.set_cons_zero, List.set_cons_succ, rz_tr, Nat.reduceAdd, Int.reduceAdd, Int.reduceToNat, Int.reduceSub, Int.reduceNeg, Int.cast_ofNat_Int]
        try simp (disch := omega) only [e46, y1, rb_0, pk_us, pk_un, va_up_self, va_up_ne, nI_add, pk_mul, nI_clamp, vp_inT, nI_ltI, nI_leI, nI_eqI, pk_sub, true_and, and_true]
        refine hK _ _ _ _ ?_
        refine rz_cV (As := [.int (nI kk)]) (b := a) (S := []) l_Mod_318 (by decide +kernel) rfl re_at0 rfl (Nat.le_of_ble_eq_true rfl) (Nat.le_refl _) (Nat.le_refl _) (hsp) (fun r G' hr => ?_)
        obtain ⟨rfl, I4, A4, rfl, i4, a4, y6, y7⟩ := hr
        simp only [Option.toList, List.nil_append]
        refine rz_blk' [(.aload_n 0, 1, 0, 0), (.aload_n 0, 1, 0, 0), (.getfield 309, 3, 10, 46), (.putfield 334, 3, 10, 47)] (by decide +kernel) (Nat.le_refl _) (Nat.le_refl _) (fun K R hK hR => ?_)
        simp only [List.length_cons, List.length_nil, Nat.reduceLT, rf_10_47, ↓rx_aload_n0, ↓rx_getfield, ↓rx_nil, ↓rx_putfield, ↓ry_lr0s, ↓ry_lr0z, ↓ry_obu, ↓ry_r1, ↓ry_vr, true_and, re_len, re_u47, ↓re_F46, ↓re_ob, y6, rz_set, rz_nol, rz_clr, List.set_cons_zero, List.set_cons_succ, rz_tr, Nat.reduceAdd, Int.reduceAdd, Int.reduceToNat, Int.reduceSub, Int.reduceNeg, Int.cast_ofNat_Int]
        try simp (disch := omega) only [y6, rb_0, pk_us, pk_un, va_up_self, va_up_ne, nI_add, pk_mul, nI_clamp, vp_inT, nI_ltI, nI_leI, nI_eqI, pk_sub, true_and, and_true]
        refine hK _ _ _ _ ?_
        refine rz_blk' [(.iconst 0, 1, 0, 0), (.istore 4, 2, 0, 0)] (by decide +kernel) (Nat.le_refl _) (Nat.le_refl _) (fun K R hK hR => ?_)
        simp only [rw_c0, ↓rx_iconst, ↓rx_istore, ↓rx_nil, ↓ry_i1, y6, rz_set, rz_nol, rz_clr, List.set_cons_zero, List.set_cons_succ, rz_tr, Nat.reduceAdd, Int.reduceAdd, Int.reduceToNat, Int.reduceSub, Int.reduceNeg, Int.cast_ofNat_Int]
        try simp (disch := omega) only [y6, rb_0, pk_us, pk_un, va_up_self, va_up_ne, nI_add, pk_mul, nI_clamp, vp_inT, nI_ltI, nI_leI, nI_eqI, pk_sub, true_and, and_true]
        refine hK _ _ _ _ ?_
        refine c1 _ u1.length _ _ (by omega) (by rw [pk_un (by decide)]; exact y6) ?_
        refine hC rb u1 _ _ _ (((i1.t i3 rfl).t i4 rfl).u rfl) (((a2.t a3 rfl).t a4 rfl).u rfl) ?_ ?_ x1 hl1.2 (by omega) (fun _ => ⟨pk_us, ?_⟩)
        · exact re_t_fa (K := [48, 49]) t1' ((a4.m rfl).u rfl) rfl
        · exact re_t_fa (K := [48, 49]) t2' ((a4.m rfl).u rfl) rfl
        · rw [va_up_self]; exact sg_cp y7 (Nat.le_refl _)
    refine rz_blk' [(.aload_n 0, 1, 0, 0), (.iload_n 1, 1, 0, 0), (.iconst 0, 1, 0, 0)] (by decide +kernel) (Nat.le_refl _) (Nat.le_refl _) (fun K R hK hR => ?_)
    simp only [rw_c0, ↓rx_aload_n0, ↓rx_iconst, ↓rx_iload_n1, ↓rx_nil, ↓ry_li0s, ↓ry_li0z, ↓ry_lr0s, ↓ry_lr0z, rz_set, rz_nol, rz_clr, List.set_cons_zero, List.set_cons_succ, rz_tr, Nat.reduceAdd, Int.reduceAdd, Int.reduceToNat, Int.reduceSub, Int.reduceNeg, Int.cast_ofNat_Int]
    try simp (disch := omega) only [rb_0, pk_us, pk_un, va_up_self, va_up_ne, nI_add, pk_mul, nI_clamp, vp_inT, nI_ltI, nI_leI, nI_eqI, pk_sub, true_and, and_true]
    refine hK _ _ _ _ ?_
    refine rz_cV (As := [.int (nI k1), .int (nI 0)]) (b := a) (S := []) l_Mod_235 (by decide +kernel) rfl re_at0 rfl (Nat.le_of_ble_eq_true rfl) (Nat.le_refl _) (Nat.le_refl _) (htk1) (fun r G' hr => ?_)
    obtain ⟨rfl, A2, rfl, hft, hre1⟩ := hr
    simp only [Option.toList, List.nil_append]
    have a2 : fa [14, 15, 16, 17, 18, 19, 20, 21, 22, 23, 24, 25, 26, 27, 28, 29, 30, 31, 32, 33, 34, 35, 36, 37, 38, 39, 40, 41, 42, 43, 44, 45, 46, 47, 48, 49] A A2 := a1.t (ft_fa hft) rfl
    have htk2 := c_Mod_take (w := w) (d := d + 3) (G := G) (a := a) (I := I1) (A := A2) (k := k2) (hh := 1) hk2 (by decide) (re_m_keep hm2 (fun f x ho => by rw [a2 f (by unfold re_own at ho; simp; omega)]))
    rw [hT2] at htk2
    refine rz_blk' [(.aload_n 0, 1, 0, 0), (.iload_n 2, 1, 0, 0), (.iconst 1, 1, 0, 0)] (by decide +kernel) (Nat.le_refl _) (Nat.le_refl _) (fun K R hK hR => ?_)
    simp only [rw_c1, ↓rx_aload_n0, ↓rx_iconst, ↓rx_iload_n2, ↓rx_nil, ↓ry_li0s, ↓ry_li0z, ↓ry_lr0s, ↓ry_lr0z, rz_set, rz_nol, rz_clr, List.set_cons_zero, List.set_cons_succ, rz_tr, Nat.reduceAdd, Int.reduceAdd, Int.reduceToNat, Int.reduceSub, Int.reduceNeg, Int.cast_ofNat_Int]
    try simp (disch := omega) only [rb_0, pk_us, pk_un, va_up_self, va_up_ne, nI_add, pk_mul, nI_clamp, vp_inT, nI_ltI, nI_leI, nI_eqI, pk_sub, true_and, and_true]
    refine hK _ _ _ _ ?_
    refine rz_cV (As := [.int (nI k2), .int (nI 1)]) (b := a) (S := []) l_Mod_235 (by decide +kernel) rfl re_at0 rfl (Nat.le_of_ble_eq_true rfl) (Nat.le_refl _) (Nat.le_refl _) (htk2) (fun r G' hr => ?_)
    obtain ⟨rfl, A3, rfl, hft2, hre2⟩ := hr
    simp only [Option.toList, List.nil_append]
    have a3 : fa [14, 15, 16, 17, 18, 19, 20, 21, 22, 23, 24, 25, 26, 27, 28, 29, 30, 31, 32, 33, 34, 35, 36, 37, 38, 39, 40, 41, 42, 43, 44, 45, 46, 47, 48, 49] A A3 := a2.t (ft_fa hft2) rfl
    have hre1' : re_t A3 0 T1 := re_t_keep hre1 htw1' (fun f z ho => hft2 f z (by unfold th_own at *; omega))
    have ux1 := hre1'.1 0 (by decide)
    have ux2 := hre2.1 0 (by decide)
    rw [Nat.mul_zero, Nat.add_zero] at ux1
    rw [Nat.mul_one, Nat.add_zero] at ux2
    refine rz_blk' [(.aload_n 0, 1, 0, 0), (.aload_n 0, 1, 0, 0), (.getfield 46, 3, 10, 14), (.iconst 0, 1, 0, 0), (.baload, 1, 0, 0), (.ifCond .eq 7, 3, 0, 0)] (by decide +kernel) (Nat.le_refl _) (Nat.le_refl _) (fun K R hK hR => ?_)
    simp only [Nat.reduceEqDiff, false_or, or_false, or_true, reduceIte, rw_c0, ↓rx_aload_n0, ↓rx_baload, ↓rx_getfield, ↓rx_iconst, ↓rx_ifCond_eq, ↓rx_nil, ↓ry_i1, ↓ry_iau, ↓ry_lr0s, ↓ry_lr0z, ↓ry_obu, ↓ry_r1, ↓ry_ri, true_and, true_or, re_a14, ↓re_F14, ↓re_i14, ↓re_ob, ux1, ux2, rz_set, rz_nol, rz_clr, List.set_cons_zero, List.set_cons_succ, rz_tr, Nat.reduceAdd, Int.reduceAdd, Int.reduceToNat, Int.reduceSub, Int.reduceNeg, Int.cast_ofNat_Int]
    try simp (disch := omega) only [ux1, ux2, rb_0, pk_us, pk_un, va_up_self, va_up_ne, nI_add, pk_mul, nI_clamp, vp_inT, nI_ltI, nI_leI, nI_eqI, pk_sub, true_and, and_true]
    refine ⟨fun q21 => hK _ _ _ _ ?_, fun q21 => hK _ _ _ _ ?_⟩
    · -- 67 taken
      refine rz_blk' [(.iconst 0, 1, 0, 0), (.aload_n 0, 1, 0, 0), (.getfield 46, 3, 10, 14), (.bipush 6, 2, 0, 0), (.baload, 1, 0, 0), (.ifCond .eq 7, 3, 0, 0)] (by decide +kernel) (Nat.le_refl _) (Nat.le_refl _) (fun K R hK hR => ?_)
      simp only [Nat.reduceEqDiff, false_or, or_false, or_true, reduceIte, rw_b6, rw_c0, ↓rx_aload_n0, ↓rx_baload, ↓rx_bipush, ↓rx_getfield, ↓rx_iconst, ↓rx_ifCond_eq, ↓rx_nil, ↓ry_i1, ↓ry_iau, ↓ry_lr0s, ↓ry_lr0z, ↓ry_obu, ↓ry_r1, ↓ry_ri, true_and, true_or, re_a14, ↓re_F14, ↓re_i14, ↓re_ob, ux1, ux2, rz_set, rz_nol, rz_clr, List.set_cons_zero, List.set_cons_succ, rz_tr, Nat.reduceAdd, Int.reduceAdd, Int.reduceToNat, Int.reduceSub, Int.reduceNeg, Int.cast_ofNat_Int]
      try simp (disch := omega) only [ux1, ux2, rb_0, pk_us, pk_un, va_up_self, va_up_ne, nI_add, pk_mul, nI_clamp, vp_inT, nI_ltI, nI_leI, nI_eqI, pk_sub, true_and, and_true]
      refine ⟨fun q22 => hK _ _ _ _ ?_, fun q22 => hK _ _ _ _ ?_⟩
      · -- 82 taken
        refine rz_blk' [(.iconst 0, 1, 0, 0), (.iconst 0, 1, 0, 0), (.iconst 1, 1, 0, 0)] (by decide +kernel) (Nat.le_refl _) (Nat.le_refl _) (fun K R hK hR => ?_)
        simp only [rw_c0, rw_c1, ↓rx_iconst, ↓rx_nil, ux1, ux2, rz_set, rz_nol, rz_clr, List.set_cons_zero, List.set_cons_succ, rz_tr, Nat.reduceAdd, Int.reduceAdd, Int.reduceToNat, Int.reduceSub, Int.reduceNeg, Int.cast_ofNat_Int]
        try simp (disch := omega) only [ux1, ux2, rb_0, pk_us, pk_un, va_up_self, va_up_ne, nI_add, pk_mul, nI_clamp, vp_inT, nI_ltI, nI_leI, nI_eqI, pk_sub, true_and, and_true]
        refine hK _ _ _ _ ?_
        have hz := hrd A3 a3 hre1' hre2
        first
          | (rw [if_pos (show T1.1.testBit 0 = true by simpa using q21), if_pos (show T2.1.testBit 0 = true by simpa using q22)] at hz; exact hz)
          | (rw [if_pos (show T1.1.testBit 0 = true by simpa using q21), if_neg (show ¬ T2.1.testBit 0 = true by simpa using q22)] at hz; exact hz)
          | (rw [if_neg (show ¬ T1.1.testBit 0 = true by simpa using q21), if_pos (show T2.1.testBit 0 = true by simpa using q22)] at hz; exact hz)
          | (rw [if_neg (show ¬ T1.1.testBit 0 = true by simpa using q21), if_neg (show ¬ T2.1.testBit 0 = true by simpa using q22)] at hz; exact hz)
      · -- 82 not taken
        refine rz_blk' [(.iconst 1, 1, 0, 0), (.goto 4, 3, 0, 0)] (by decide +kernel) (Nat.le_refl _) (Nat.le_refl _) (fun K R hK hR => ?_)
        simp only [rw_c1, ↓rx_goto, ↓rx_iconst, ↓rx_nil, ux1, ux2, rz_set, rz_nol, rz_clr, List.set_cons_zero, List.set_cons_succ, rz_tr, Nat.reduceAdd, Int.reduceAdd, Int.reduceToNat, Int.reduceSub, Int.reduceNeg, Int.cast_ofNat_Int]
        try simp (disch := omega) only [ux1, ux2, rb_0, pk_us, pk_un, va_up_self, va_up_ne, nI_add, pk_mul, nI_clamp, vp_inT, nI_ltI, nI_leI, nI_eqI, pk_sub, true_and, and_true]
        refine hK _ _ _ _ ?_
        refine rz_blk' [(.iconst 0, 1, 0, 0), (.iconst 1, 1, 0, 0)] (by decide +kernel) (Nat.le_refl _) (Nat.le_refl _) (fun K R hK hR => ?_)
        simp only [rw_c0, rw_c1, ↓rx_iconst, ↓rx_nil, ux1, ux2, rz_set, rz_nol, rz_clr, List.set_cons_zero, List.set_cons_succ, rz_tr, Nat.reduceAdd, Int.reduceAdd, Int.reduceToNat, Int.reduceSub, Int.reduceNeg, Int.cast_ofNat_Int]
        try simp (disch := omega) only [ux1, ux2, rb_0, pk_us, pk_un, va_up_self, va_up_ne, nI_add, pk_mul, nI_clamp, vp_inT, nI_ltI, nI_leI, nI_eqI, pk_sub, true_and, and_true]
        refine hK _ _ _ _ ?_
        have hz := hrd A3 a3 hre1' hre2
        first
          | (rw [if_pos (show T1.1.testBit 0 = true by simpa using q21), if_pos (show T2.1.testBit 0 = true by simpa using q22)] at hz; exact hz)
          | (rw [if_pos (show T1.1.testBit 0 = true by simpa using q21), if_neg (show ¬ T2.1.testBit 0 = true by simpa using q22)] at hz; exact hz)
          | (rw [if_neg (show ¬ T1.1.testBit 0 = true by simpa using q21), if_pos (show T2.1.testBit 0 = true by simpa using q22)] at hz; exact hz)
          | (rw [if_neg (show ¬ T1.1.testBit 0 = true by simpa using q21), if_neg (show ¬ T2.1.testBit 0 = true by simpa using q22)] at hz; exact hz)
    · -- 67 not taken
      refine rz_blk' [(.iconst 1, 1, 0, 0), (.goto 4, 3, 0, 0)] (by decide +kernel) (Nat.le_refl _) (Nat.le_refl _) (fun K R hK hR => ?_)
      simp only [rw_c1, ↓rx_goto, ↓rx_iconst, ↓rx_nil, ux1, ux2, rz_set, rz_nol, rz_clr, List.set_cons_zero, List.set_cons_succ, rz_tr, Nat.reduceAdd, Int.reduceAdd, Int.reduceToNat, Int.reduceSub, Int.reduceNeg, Int.cast_ofNat_Int]
      try simp (disch := omega) only [ux1, ux2, rb_0, pk_us, pk_un, va_up_self, va_up_ne, nI_add, pk_mul, nI_clamp, vp_inT, nI_ltI, nI_leI, nI_eqI, pk_sub, true_and, and_true]
      refine hK _ _ _ _ ?_
      refine rz_blk' [(.aload_n 0, 1, 0, 0), (.getfield 46, 3, 10, 14), (.bipush 6, 2, 0, 0), (.baload, 1, 0, 0), (.ifCond .eq 7, 3, 0, 0)] (by decide +kernel) (Nat.le_refl _) (Nat.le_refl _) (fun K R hK hR => ?_)
      simp only [Nat.reduceEqDiff, false_or, or_false, or_true, reduceIte, rw_b6, ↓rx_aload_n0, ↓rx_baload, ↓rx_bipush, ↓rx_getfield, ↓rx_ifCond_eq, ↓rx_nil, ↓ry_i1, ↓ry_iau, ↓ry_lr0s, ↓ry_lr0z, ↓ry_obu, ↓ry_r1, ↓ry_ri, true_and, true_or, re_a14, ↓re_F14, ↓re_i14, ↓re_ob, ux1, ux2, rz_set, rz_nol, rz_clr, List.set_cons_zero, List.set_cons_succ, rz_tr, Nat.reduceAdd, Int.reduceAdd, Int.reduceToNat, Int.reduceSub, Int.reduceNeg, Int.cast_ofNat_Int]
      try simp (disch := omega) only [ux1, ux2, rb_0, pk_us, pk_un, va_up_self, va_up_ne, nI_add, pk_mul, nI_clamp, vp_inT, nI_ltI, nI_leI, nI_eqI, pk_sub, true_and, and_true]
      refine ⟨fun q23 => hK _ _ _ _ ?_, fun q23 => hK _ _ _ _ ?_⟩
      · -- 82 taken
        refine rz_blk' [(.iconst 0, 1, 0, 0), (.iconst 0, 1, 0, 0), (.iconst 1, 1, 0, 0)] (by decide +kernel) (Nat.le_refl _) (Nat.le_refl _) (fun K R hK hR => ?_)
        simp only [rw_c0, rw_c1, ↓rx_iconst, ↓rx_nil, ux1, ux2, rz_set, rz_nol, rz_clr, List.set_cons_zero, List.set_cons_succ, rz_tr, Nat.reduceAdd, Int.reduceAdd, Int.reduceToNat, Int.reduceSub, Int.reduceNeg, Int.cast_ofNat_Int]
        try simp (disch := omega) only [ux1, ux2, rb_0, pk_us, pk_un, va_up_self, va_up_ne, nI_add, pk_mul, nI_clamp, vp_inT, nI_ltI, nI_leI, nI_eqI, pk_sub, true_and, and_true]
        refine hK _ _ _ _ ?_
        have hz := hrd A3 a3 hre1' hre2
        first
          | (rw [if_pos (show T1.1.testBit 0 = true by simpa using q21), if_pos (show T2.1.testBit 0 = true by simpa using q23)] at hz; exact hz)
          | (rw [if_pos (show T1.1.testBit 0 = true by simpa using q21), if_neg (show ¬ T2.1.testBit 0 = true by simpa using q23)] at hz; exact hz)
          | (rw [if_neg (show ¬ T1.1.testBit 0 = true by simpa using q21), if_pos (show T2.1.testBit 0 = true by simpa using q23)] at hz; exact hz)
          | (rw [if_neg (show ¬ T1.1.testBit 0 = true by simpa using q21), if_neg (show ¬ T2.1.testBit 0 = true by simpa using q23)] at hz; exact hz)
      · -- 82 not taken
        refine rz_blk' [(.iconst 1, 1, 0, 0), (.goto 4, 3, 0, 0)] (by decide +kernel) (Nat.le_refl _) (Nat.le_refl _) (fun K R hK hR => ?_)
        simp only [rw_c1, ↓rx_goto, ↓rx_iconst, ↓rx_nil, ux1, ux2, rz_set, rz_nol, rz_clr, List.set_cons_zero, List.set_cons_succ, rz_tr, Nat.reduceAdd, Int.reduceAdd, Int.reduceToNat, Int.reduceSub, Int.reduceNeg, Int.cast_ofNat_Int]
        try simp (disch := omega) only [ux1, ux2, rb_0, pk_us, pk_un, va_up_self, va_up_ne, nI_add, pk_mul, nI_clamp, vp_inT, nI_ltI, nI_leI, nI_eqI, pk_sub, true_and, and_true]
        refine hK _ _ _ _ ?_
        refine rz_blk' [(.iconst 0, 1, 0, 0), (.iconst 1, 1, 0, 0)] (by decide +kernel) (Nat.le_refl _) (Nat.le_refl _) (fun K R hK hR => ?_)
        simp only [rw_c0, rw_c1, ↓rx_iconst, ↓rx_nil, ux1, ux2, rz_set, rz_nol, rz_clr, List.set_cons_zero, List.set_cons_succ, rz_tr, Nat.reduceAdd, Int.reduceAdd, Int.reduceToNat, Int.reduceSub, Int.reduceNeg, Int.cast_ofNat_Int]
        try simp (disch := omega) only [ux1, ux2, rb_0, pk_us, pk_un, va_up_self, va_up_ne, nI_add, pk_mul, nI_clamp, vp_inT, nI_ltI, nI_leI, nI_eqI, pk_sub, true_and, and_true]
        refine hK _ _ _ _ ?_
        have hz := hrd A3 a3 hre1' hre2
        first
          | (rw [if_pos (show T1.1.testBit 0 = true by simpa using q21), if_pos (show T2.1.testBit 0 = true by simpa using q23)] at hz; exact hz)
          | (rw [if_pos (show T1.1.testBit 0 = true by simpa using q21), if_neg (show ¬ T2.1.testBit 0 = true by simpa using q23)] at hz; exact hz)
          | (rw [if_neg (show ¬ T1.1.testBit 0 = true by simpa using q21), if_pos (show T2.1.testBit 0 = true by simpa using q23)] at hz; exact hz)
          | (rw [if_neg (show ¬ T1.1.testBit 0 = true by simpa using q21), if_neg (show ¬ T2.1.testBit 0 = true by simpa using q23)] at hz; exact hz)
  refine rz_blk' [(.ifCond .ne 5, 3, 0, 0)] (by decide +kernel) (Nat.le_refl _) (Nat.le_refl _) (fun K R hK hR => ?_)
  simp only [↓rx_ifCond_ne, ↓rx_nil, ↓ry_i1, rz_set, rz_nol, rz_clr, List.set_cons_zero, List.set_cons_succ, rz_tr, Nat.reduceAdd, Int.reduceAdd, Int.reduceToNat, Int.reduceSub, Int.reduceNeg, Int.cast_ofNat_Int]
  try simp (disch := omega) only [rb_0, Bool.not_eq_true, Bool.not_eq_false, pk_us, pk_un, va_up_self, va_up_ne, nI_add, pk_mul, nI_clamp, vp_inT, nI_ltI, nI_leI, nI_eqI, pk_sub, true_and, and_true]
  refine ⟨fun q24 => hK _ _ _ _ ?_, fun q24 => absurd q24 (by decide)⟩
  refine rz_blk' [(.aload_n 0, 1, 0, 0), (.iload_n 1, 1, 0, 0)] (by decide +kernel) (Nat.le_refl _) (Nat.le_refl _) (fun K R hK hR => ?_)
  simp only [↓rx_aload_n0, ↓rx_iload_n1, ↓rx_nil, ↓ry_li0s, ↓ry_li0z, ↓ry_lr0s, ↓ry_lr0z, rz_set, rz_nol, rz_clr, List.set_cons_zero, List.set_cons_succ, rz_tr, Nat.reduceAdd, Int.reduceAdd, Int.reduceToNat, Int.reduceSub, Int.reduceNeg, Int.cast_ofNat_Int]
  try simp (disch := omega) only [rb_0, Bool.not_eq_true, Bool.not_eq_false, pk_us, pk_un, va_up_self, va_up_ne, nI_add, pk_mul, nI_clamp, vp_inT, nI_ltI, nI_leI, nI_eqI, pk_sub, true_and, and_true]
  refine hK _ _ _ _ ?_
  refine rz_cV (As := [.int (nI k1)]) (b := a) (S := []) l_Mod_315 (by decide +kernel) rfl re_at0 rfl (Nat.le_of_ble_eq_true rfl) (Nat.le_refl _) (Nat.le_refl _) (hfo1) (fun r G' hr => ?_)
  obtain ⟨I2, A2, b1, v1, rfl, rfl, hkp1, i2, -, a2, W1, kk1, -, -, -, -, z1⟩ := hr
  simp only [Option.toList, List.cons_append, List.nil_append]
  have hm2' : re_m A2 k2 (V.1 k2) := re_m_keep hm2 (fun f x ho => by rw [a2 f (by unfold re_own at ho; simp; omega)])
  have hfo2 := c_Mod_functionOf (w := w) (d := d) (G := G) (a := a) (I := I2) (A := A2) hk2 hm2'
  refine rz_blk' [(.ifCond .eq 11, 3, 0, 0)] (by decide +kernel) (Nat.le_refl _) (Nat.le_refl _) (fun K R hK hR => ?_)
  simp only [↓rx_ifCond_eq, ↓rx_nil, ↓ry_i1, rz_set, rz_nol, rz_clr, List.set_cons_zero, List.set_cons_succ, rz_tr, Nat.reduceAdd, Int.reduceAdd, Int.reduceToNat, Int.reduceSub, Int.reduceNeg, Int.cast_ofNat_Int]
  try simp (disch := omega) only [rb_0, Bool.not_eq_true, Bool.not_eq_false, pk_us, pk_un, va_up_self, va_up_ne, nI_add, pk_mul, nI_clamp, vp_inT, nI_ltI, nI_leI, nI_eqI, pk_sub, true_and, and_true]
  refine ⟨fun q25 => hK _ _ _ _ ?_, fun q25 => hK _ _ _ _ ?_⟩
  · -- 23 taken
    refine rz_blk' [(.aload_n 0, 1, 0, 0), (.iconst 2, 1, 0, 0)] (by decide +kernel) (Nat.le_refl _) (Nat.le_refl _) (fun K R hK hR => ?_)
    simp only [rw_c2, ↓rx_aload_n0, ↓rx_iconst, ↓rx_nil, ↓ry_lr0s, ↓ry_lr0z, rz_set, rz_nol, rz_clr, List.set_cons_zero, List.set_cons_succ, rz_tr, Nat.reduceAdd, Int.reduceAdd, Int.reduceToNat, Int.reduceSub, Int.reduceNeg, Int.cast_ofNat_Int]
    try simp (disch := omega) only [rb_0, Bool.not_eq_true, Bool.not_eq_false, pk_us, pk_un, va_up_self, va_up_ne, nI_add, pk_mul, nI_clamp, vp_inT, nI_ltI, nI_leI, nI_eqI, pk_sub, true_and, and_true]
    refine hK _ _ _ _ ?_
    refine rz_cV (As := [.int (nI 2)]) (b := a) (S := []) l_Mod_218 (by decide +kernel) rfl re_at0 rfl (Nat.le_of_ble_eq_true rfl) (Nat.le_refl _) (Nat.le_refl _) (c_Mod_fail _) (fun r G' hr => ?_)
    obtain ⟨rfl, rfl⟩ := hr
    simp only [Option.toList, List.cons_append, List.nil_append]
    refine rz_blk' [(.ifCond .le 7, 3, 0, 0)] (by decide +kernel) (Nat.le_refl _) (Nat.le_refl _) (fun K R hK hR => ?_)
    simp only [↓rx_ifCond_le, ↓rx_nil, ↓ry_i1, rz_set, rz_nol, rz_clr, List.set_cons_zero, List.set_cons_succ, rz_tr, Nat.reduceAdd, Int.reduceAdd, Int.reduceToNat, Int.reduceSub, Int.reduceNeg, Int.cast_ofNat_Int]
    try simp (disch := omega) only [rb_0, Bool.not_eq_true, Bool.not_eq_false, pk_us, pk_un, va_up_self, va_up_ne, nI_add, pk_mul, nI_clamp, vp_inT, nI_ltI, nI_leI, nI_eqI, pk_sub, true_and, and_true]
    refine ⟨fun q26 => hK _ _ _ _ ?_, fun q26 => absurd q26 (by decide)⟩
    refine rz_blk' [(.iconst 0, 1, 0, 0), (.ireturn, 1, 0, 0)] (by decide +kernel) (Nat.le_refl _) (Nat.le_refl _) (fun K R hK hR => ?_)
    simp only [rw_c0, ↓rx_iconst, ↓rx_ireturn, ↓rx_nil, rz_set, rz_nol, rz_clr, List.set_cons_zero, List.set_cons_succ, rz_tr, Nat.reduceAdd, Int.reduceAdd, Int.reduceToNat, Int.reduceSub, Int.reduceNeg, Int.cast_ofNat_Int]
    try simp (disch := omega) only [rb_0, Bool.not_eq_true, Bool.not_eq_false, pk_us, pk_un, va_up_self, va_up_ne, nI_add, pk_mul, nI_clamp, vp_inT, nI_ltI, nI_leI, nI_eqI, pk_sub, true_and, and_true]
    first
      | (have e2 : b2 = true := (by simpa using q25)
         subst e2
         refine hR _ _ rz_nb_0 (hfail I3 A3 (i2.t' i3 rfl rfl) (a2.t' a3 rfl rfl) (by rw [i3 46 rfl, i2 46 rfl]) (Or.inr ⟨v2, ?_⟩))
         rcases z2 with ⟨q, -⟩ | ⟨-, q, -⟩
         · cases q
         · exact q)
      | (have e1 : b1 = true := (by simpa using q25)
         subst e1
         refine hR _ _ rz_nb_0 (hfail I2 A2 (i2.m rfl) (a2.m rfl) (i2 46 rfl) (Or.inl ⟨v1, ?_⟩))
         rcases z1 with ⟨q, -⟩ | ⟨-, q, -⟩
         · cases q
         · exact q)
  · -- 23 not taken
    refine rz_blk' [(.aload_n 0, 1, 0, 0), (.iload_n 2, 1, 0, 0)] (by decide +kernel) (Nat.le_refl _) (Nat.le_refl _) (fun K R hK hR => ?_)
    simp only [↓rx_aload_n0, ↓rx_iload_n2, ↓rx_nil, ↓ry_li0s, ↓ry_li0z, ↓ry_lr0s, ↓ry_lr0z, rz_set, rz_nol, rz_clr, List.set_cons_zero, List.set_cons_succ, rz_tr, Nat.reduceAdd, Int.reduceAdd, Int.reduceToNat, Int.reduceSub, Int.reduceNeg, Int.cast_ofNat_Int]
    try simp (disch := omega) only [rb_0, Bool.not_eq_true, Bool.not_eq_false, pk_us, pk_un, va_up_self, va_up_ne, nI_add, pk_mul, nI_clamp, vp_inT, nI_ltI, nI_leI, nI_eqI, pk_sub, true_and, and_true]
    refine hK _ _ _ _ ?_
    refine rz_cV (As := [.int (nI k2)]) (b := a) (S := []) l_Mod_315 (by decide +kernel) rfl re_at0 rfl (Nat.le_of_ble_eq_true rfl) (Nat.le_refl _) (Nat.le_refl _) (hfo2) (fun r G' hr => ?_)
    obtain ⟨I3, A3, b2, v2, rfl, rfl, hkp2, i3, -, a3, W2, kk2, -, -, -, -, z2⟩ := hr
    simp only [Option.toList, List.cons_append, List.nil_append]
    refine rz_blk' [(.ifCond .ne 17, 3, 0, 0)] (by decide +kernel) (Nat.le_refl _) (Nat.le_refl _) (fun K R hK hR => ?_)
    simp only [↓rx_ifCond_ne, ↓rx_nil, ↓ry_i1, rz_set, rz_nol, rz_clr, List.set_cons_zero, List.set_cons_succ, rz_tr, Nat.reduceAdd, Int.reduceAdd, Int.reduceToNat, Int.reduceSub, Int.reduceNeg, Int.cast_ofNat_Int]
    try simp (disch := omega) only [rb_0, Bool.not_eq_true, Bool.not_eq_false, pk_us, pk_un, va_up_self, va_up_ne, nI_add, pk_mul, nI_clamp, vp_inT, nI_ltI, nI_leI, nI_eqI, pk_sub, true_and, and_true]
    refine ⟨fun q27 => hK _ _ _ _ ?_, fun q27 => hK _ _ _ _ ?_⟩
    · -- 31 taken
      have e1 : b1 = false := by simpa using q25
      have e2 : b2 = false := by simpa using q27
      subst e1; subst e2
      refine hgo I3 A3 (i2.t' i3 rfl rfl) (a2.t' a3 rfl rfl) (by rw [i3 46 rfl, i2 46 rfl]) ?_ ?_
      · rcases z1 with ⟨-, q⟩ | ⟨q, -⟩
        · exact q
        · cases q
      · rcases z2 with ⟨-, q⟩ | ⟨q, -⟩
        · exact q
        · cases q
    · -- 31 not taken
      refine rz_blk' [(.aload_n 0, 1, 0, 0), (.iconst 2, 1, 0, 0)] (by decide +kernel) (Nat.le_refl _) (Nat.le_refl _) (fun K R hK hR => ?_)
      simp only [rw_c2, ↓rx_aload_n0, ↓rx_iconst, ↓rx_nil, ↓ry_lr0s, ↓ry_lr0z, rz_set, rz_nol, rz_clr, List.set_cons_zero, List.set_cons_succ, rz_tr, Nat.reduceAdd, Int.reduceAdd, Int.reduceToNat, Int.reduceSub, Int.reduceNeg, Int.cast_ofNat_Int]
      try simp (disch := omega) only [rb_0, Bool.not_eq_true, Bool.not_eq_false, pk_us, pk_un, va_up_self, va_up_ne, nI_add, pk_mul, nI_clamp, vp_inT, nI_ltI, nI_leI, nI_eqI, pk_sub, true_and, and_true]
      refine hK _ _ _ _ ?_
      refine rz_cV (As := [.int (nI 2)]) (b := a) (S := []) l_Mod_218 (by decide +kernel) rfl re_at0 rfl (Nat.le_of_ble_eq_true rfl) (Nat.le_refl _) (Nat.le_refl _) (c_Mod_fail _) (fun r G' hr => ?_)
      obtain ⟨rfl, rfl⟩ := hr
      simp only [Option.toList, List.cons_append, List.nil_append]
      refine rz_blk' [(.ifCond .le 7, 3, 0, 0)] (by decide +kernel) (Nat.le_refl _) (Nat.le_refl _) (fun K R hK hR => ?_)
      simp only [↓rx_ifCond_le, ↓rx_nil, ↓ry_i1, rz_set, rz_nol, rz_clr, List.set_cons_zero, List.set_cons_succ, rz_tr, Nat.reduceAdd, Int.reduceAdd, Int.reduceToNat, Int.reduceSub, Int.reduceNeg, Int.cast_ofNat_Int]
      try simp (disch := omega) only [rb_0, Bool.not_eq_true, Bool.not_eq_false, pk_us, pk_un, va_up_self, va_up_ne, nI_add, pk_mul, nI_clamp, vp_inT, nI_ltI, nI_leI, nI_eqI, pk_sub, true_and, and_true]
      refine ⟨fun q28 => hK _ _ _ _ ?_, fun q28 => absurd q28 (by decide)⟩
      refine rz_blk' [(.iconst 0, 1, 0, 0), (.ireturn, 1, 0, 0)] (by decide +kernel) (Nat.le_refl _) (Nat.le_refl _) (fun K R hK hR => ?_)
      simp only [rw_c0, ↓rx_iconst, ↓rx_ireturn, ↓rx_nil, rz_set, rz_nol, rz_clr, List.set_cons_zero, List.set_cons_succ, rz_tr, Nat.reduceAdd, Int.reduceAdd, Int.reduceToNat, Int.reduceSub, Int.reduceNeg, Int.cast_ofNat_Int]
      try simp (disch := omega) only [rb_0, Bool.not_eq_true, Bool.not_eq_false, pk_us, pk_un, va_up_self, va_up_ne, nI_add, pk_mul, nI_clamp, vp_inT, nI_ltI, nI_leI, nI_eqI, pk_sub, true_and, and_true]
      first
        | (have e2 : b2 = true := (by simpa using q27)
           subst e2
           refine hR _ _ rz_nb_0 (hfail I3 A3 (i2.t' i3 rfl rfl) (a2.t' a3 rfl rfl) (by rw [i3 46 rfl, i2 46 rfl]) (Or.inr ⟨v2, ?_⟩))
           rcases z2 with ⟨q, -⟩ | ⟨-, q, -⟩
           · cases q
           · exact q)
        | (have e1 : b1 = true := (by simpa using q27)
           subst e1
           refine hR _ _ rz_nb_0 (hfail I2 A2 (i2.m rfl) (a2.m rfl) (i2 46 rfl) (Or.inl ⟨v1, ?_⟩))
           rcases z1 with ⟨q, -⟩ | ⟨-, q, -⟩
           · cases q
           · exact q)
