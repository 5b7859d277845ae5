/-! the reference: small methods -/
theorem vp_inT {n N : Nat} (h : n < N) (hN : N < 2 ^ 31) : vp_in (nI n) N = True := eq_true (vp_in_nI h hN)
theorem nI_eqI {a b : Nat} (ha : a < 2 ^ 31) (hb : b < 2 ^ 31) : (nI a = nI b) = (a = b) := propext (nI_eq ha hb)
/-- two words laid down in one and two -/
def re_12 (I : Nat → Int32) (A : Nat → Nat → Int32) (u v : List Nat) : Prop := I 26 = nI u.length ∧ I 27 = nI v.length ∧ sg (A 28) 0 u ∧ sg (A 29) 0 v ∧ u.length ≤ 4200 ∧ v.length ≤ 4200 ∧ (∀ x ∈ u, x < 2 ^ 31) ∧ ∀ x ∈ v, x < 2 ^ 31
/-- how many signs both begin with alike -/
def lcpn : List Nat → List Nat → Nat
  | x :: u, y :: v => if x = y then lcpn u v + 1 else 0
  | _, _ => 0
theorem lcpn_le : ∀ u v : List Nat, lcpn u v ≤ u.length ∧ lcpn u v ≤ v.length
  | [], v => by simp [lcpn]
  | x :: u, [] => by simp [lcpn]
  | x :: u, y :: v => by
    have := lcpn_le u v
    simp only [lcpn, List.length_cons]; split <;> omega
theorem lcpn_at : ∀ (u v : List Nat) (k : Nat), k < lcpn u v → u[k]? = v[k]?
  | [], v, k, h => by simp [lcpn] at h
  | x :: u, [], k, h => by simp [lcpn] at h
  | x :: u, y :: v, k, h => by
    simp only [lcpn] at h
    split at h
    · next e =>
      subst e
      cases k with
      | zero => rfl
      | succ k => simpa using lcpn_at u v k (by omega)
    · omega
theorem lcpn_ne : ∀ (u v : List Nat), lcpn u v < u.length → lcpn u v < v.length → u[lcpn u v]? ≠ v[lcpn u v]?
  | [], v, h, _ => by simp at h
  | x :: u, [], _, h => by simp at h
  | x :: u, y :: v, h1, h2 => by
    simp only [lcpn] at h1 h2 ⊢
    split
    · next e =>
      rw [if_pos e] at h1 h2
      simp only [List.length_cons] at h1 h2
      simpa using lcpn_ne u v (by omega) (by omega)
    · next e => simpa using e
theorem lcpn_eq {u v : List Nat} {k : Nat} (h1 : k ≤ u.length) (h2 : k ≤ v.length) (h3 : ∀ j, j < k → u[j]? = v[j]?) (h4 : k < u.length → k < v.length → u[k]? ≠ v[k]?) : lcpn u v = k := by
  have a := lcpn_le u v
  by_cases c1 : k < lcpn u v
  · exact absurd (lcpn_at u v k c1) (h4 (by omega) (by omega))
  · by_cases c2 : lcpn u v < k
    · exact absurd (h3 _ c2) (lcpn_ne u v (by omega) (by omega))
    · omega
set_option maxRecDepth 100000 in
set_option maxHeartbeats 400000 in
theorem c_Mod_within {w : rz_w} {d : Nat} {G : rz_G} (x y z : Int32) : rz_C w (d + 1) 0 0 y_Mod_within m_Mod_within [.int x, .int y, .int z] G (fun r G' => r = some (.int (rz_b (decide (y ≤ x) && decide (x ≤ z)))) ∧ G' = G) := by
  refine rz_enter' [some (.int x), some (.int y), some (.int z)] (by decide +kernel) rfl rfl (Nat.le_of_ble_eq_true rfl) rfl ?_
  refine rz_blk' [(.iload_n 0, 1, 0, 0), (.iload_n 1, 1, 0, 0), (.if_icmp .lt 12, 3, 0, 0)] (by decide +kernel) (Nat.le_refl _) (Nat.le_refl _) (fun K R hK hR => ?_)
  simp only [↓rx_if_icmp_lt, ↓rx_iload_n0, ↓rx_iload_n1, ↓rx_nil, ↓ry_i2, ↓ry_li0s, ↓ry_li0z, rz_set, rz_nol, rz_clr, List.set_cons_zero, List.set_cons_succ, rz_tr, Nat.reduceAdd, Int.reduceAdd, Int.reduceToNat, Int.reduceSub, Int.reduceNeg, Int.cast_ofNat_Int]
  try simp (disch := omega) only [pk_us, pk_un, va_up_self, va_up_ne, nI_add, pk_mul, nI_clamp, vp_inT, nI_ltI, nI_leI, nI_eqI, pk_sub, true_and, and_true]
  refine ⟨fun q1 => hK _ _ _ _ ?_, fun q1 => hK _ _ _ _ ?_⟩
  · -- 2 taken
    refine rz_blk' [(.iconst 0, 1, 0, 0), (.ireturn, 1, 0, 0)] (by decide +kernel) (Nat.le_refl _) (Nat.le_refl _) (fun K R hK hR => ?_)
    simp only [rw_c0, ↓rx_iconst, ↓rx_ireturn, ↓rx_nil, rz_set, rz_nol, rz_clr, List.set_cons_zero, List.set_cons_succ, rz_tr, Nat.reduceAdd, Int.reduceAdd, Int.reduceToNat, Int.reduceSub, Int.reduceNeg, Int.cast_ofNat_Int]
    try simp (disch := omega) only [pk_us, pk_un, va_up_self, va_up_ne, nI_add, pk_mul, nI_clamp, vp_inT, nI_ltI, nI_leI, nI_eqI, pk_sub, true_and, and_true]
    first
      | (refine hR _ _ rz_nb_1 ⟨?_, rfl⟩
         rw [decide_eq_true (show y ≤ x from Int32.not_lt.mp (by assumption)), decide_eq_true (show x ≤ z from Int32.not_lt.mp (by assumption))]; rfl)
      | (refine hR _ _ rz_nb_0 ⟨?_, rfl⟩
         rw [decide_eq_false (show ¬ x ≤ z from fun q => Int32.not_lt.mpr q (by assumption)), Bool.and_false]; rfl)
      | (refine hR _ _ rz_nb_0 ⟨?_, rfl⟩
         rw [decide_eq_false (show ¬ y ≤ x from fun q => Int32.not_lt.mpr q (by assumption))]; rfl)
  · -- 2 not taken
    refine rz_blk' [(.iload_n 0, 1, 0, 0), (.iload_n 2, 1, 0, 0), (.if_icmp .gt 7, 3, 0, 0)] (by decide +kernel) (Nat.le_refl _) (Nat.le_refl _) (fun K R hK hR => ?_)
    simp only [↓rx_if_icmp_gt, ↓rx_iload_n0, ↓rx_iload_n2, ↓rx_nil, ↓ry_i2, ↓ry_li0s, ↓ry_li0z, rz_set, rz_nol, rz_clr, List.set_cons_zero, List.set_cons_succ, rz_tr, Nat.reduceAdd, Int.reduceAdd, Int.reduceToNat, Int.reduceSub, Int.reduceNeg, Int.cast_ofNat_Int]
    try simp (disch := omega) only [pk_us, pk_un, va_up_self, va_up_ne, nI_add, pk_mul, nI_clamp, vp_inT, nI_ltI, nI_leI, nI_eqI, pk_sub, true_and, and_true]
    refine ⟨fun q2 => hK _ _ _ _ ?_, fun q2 => hK _ _ _ _ ?_⟩
    · -- 7 taken
      refine rz_blk' [(.iconst 0, 1, 0, 0), (.ireturn, 1, 0, 0)] (by decide +kernel) (Nat.le_refl _) (Nat.le_refl _) (fun K R hK hR => ?_)
      simp only [rw_c0, ↓rx_iconst, ↓rx_ireturn, ↓rx_nil, rz_set, rz_nol, rz_clr, List.set_cons_zero, List.set_cons_succ, rz_tr, Nat.reduceAdd, Int.reduceAdd, Int.reduceToNat, Int.reduceSub, Int.reduceNeg, Int.cast_ofNat_Int]
      try simp (disch := omega) only [pk_us, pk_un, va_up_self, va_up_ne, nI_add, pk_mul, nI_clamp, vp_inT, nI_ltI, nI_leI, nI_eqI, pk_sub, true_and, and_true]
      first
        | (refine hR _ _ rz_nb_1 ⟨?_, rfl⟩
           rw [decide_eq_true (show y ≤ x from Int32.not_lt.mp (by assumption)), decide_eq_true (show x ≤ z from Int32.not_lt.mp (by assumption))]; rfl)
        | (refine hR _ _ rz_nb_0 ⟨?_, rfl⟩
           rw [decide_eq_false (show ¬ x ≤ z from fun q => Int32.not_lt.mpr q (by assumption)), Bool.and_false]; rfl)
        | (refine hR _ _ rz_nb_0 ⟨?_, rfl⟩
           rw [decide_eq_false (show ¬ y ≤ x from fun q => Int32.not_lt.mpr q (by assumption))]; rfl)
    · -- 7 not taken
      refine rz_blk' [(.iconst 1, 1, 0, 0), (.goto 4, 3, 0, 0)] (by decide +kernel) (Nat.le_refl _) (Nat.le_refl _) (fun K R hK hR => ?_)
      simp only [rw_c1, ↓rx_goto, ↓rx_iconst, ↓rx_nil, rz_set, rz_nol, rz_clr, List.set_cons_zero, List.set_cons_succ, rz_tr, Nat.reduceAdd, Int.reduceAdd, Int.reduceToNat, Int.reduceSub, Int.reduceNeg, Int.cast_ofNat_Int]
      try simp (disch := omega) only [pk_us, pk_un, va_up_self, va_up_ne, nI_add, pk_mul, nI_clamp, vp_inT, nI_ltI, nI_leI, nI_eqI, pk_sub, true_and, and_true]
      refine hK _ _ _ _ ?_
      refine rz_blk' [(.ireturn, 1, 0, 0)] (by decide +kernel) (Nat.le_refl _) (Nat.le_refl _) (fun K R hK hR => ?_)
      simp only [↓rx_ireturn, ↓rx_nil, rz_set, rz_nol, rz_clr, List.set_cons_zero, List.set_cons_succ, rz_tr, Nat.reduceAdd, Int.reduceAdd, Int.reduceToNat, Int.reduceSub, Int.reduceNeg, Int.cast_ofNat_Int]
      try simp (disch := omega) only [pk_us, pk_un, va_up_self, va_up_ne, nI_add, pk_mul, nI_clamp, vp_inT, nI_ltI, nI_leI, nI_eqI, pk_sub, true_and, and_true]
      first
        | (refine hR _ _ rz_nb_1 ⟨?_, rfl⟩
           rw [decide_eq_true (show y ≤ x from Int32.not_lt.mp (by assumption)), decide_eq_true (show x ≤ z from Int32.not_lt.mp (by assumption))]; rfl)
        | (refine hR _ _ rz_nb_0 ⟨?_, rfl⟩
           rw [decide_eq_false (show ¬ x ≤ z from fun q => Int32.not_lt.mpr q (by assumption)), Bool.and_false]; rfl)
        | (refine hR _ _ rz_nb_0 ⟨?_, rfl⟩
           rw [decide_eq_false (show ¬ y ≤ x from fun q => Int32.not_lt.mpr q (by assumption))]; rfl)
set_option maxRecDepth 100000 in
set_option maxHeartbeats 400000 in
theorem c_Mod_fail {w : rz_w} {d : Nat} {G : rz_G} {a : Nat} {I : Nat → Int32} {A : Nat → Nat → Int32} (x : Int32) : rz_C w d 0 0 y_Mod_fail m_Mod_fail [.ref a, .int x] (re_put G a I A) (fun r G' => r = some (.int 0) ∧ G' = re_put G a (upd I 0 x) A) := by
  refine rz_enter' [some (.ref a), some (.int x)] (by decide +kernel) rfl rfl (Nat.le_of_ble_eq_true rfl) rfl ?_
  refine rz_blk' [(.aload_n 0, 1, 0, 0), (.iload_n 1, 1, 0, 0), (.putfield 206, 3, 10, 0)] (by decide +kernel) (Nat.le_refl _) (Nat.le_refl _) (fun K R hK hR => ?_)
  simp only [List.length_cons, List.length_nil, Nat.reduceLT, rf_10_0, ↓rx_aload_n0, ↓rx_iload_n1, ↓rx_nil, ↓rx_putfield, ↓ry_li0s, ↓ry_li0z, ↓ry_lr0s, ↓ry_lr0z, ↓ry_obu, ↓ry_vr, true_and, re_len, re_u0, ↓re_ob, rz_set, rz_nol, rz_clr, List.set_cons_zero, List.set_cons_succ, rz_tr, Nat.reduceAdd, Int.reduceAdd, Int.reduceToNat, Int.reduceSub, Int.reduceNeg, Int.cast_ofNat_Int]
  try simp (disch := omega) only [pk_us, pk_un, va_up_self, va_up_ne, nI_add, pk_mul, nI_clamp, vp_inT, nI_ltI, nI_leI, nI_eqI, pk_sub, true_and, and_true]
  refine hK _ _ _ _ ?_
  refine rz_blk' [(.iconst 0, 1, 0, 0), (.ireturn, 1, 0, 0)] (by decide +kernel) (Nat.le_refl _) (Nat.le_refl _) (fun K R hK hR => ?_)
  simp only [rw_c0, ↓rx_iconst, ↓rx_ireturn, ↓rx_nil, rz_set, rz_nol, rz_clr, List.set_cons_zero, List.set_cons_succ, rz_tr, Nat.reduceAdd, Int.reduceAdd, Int.reduceToNat, Int.reduceSub, Int.reduceNeg, Int.cast_ofNat_Int]
  try simp (disch := omega) only [pk_us, pk_un, va_up_self, va_up_ne, nI_add, pk_mul, nI_clamp, vp_inT, nI_ltI, nI_leI, nI_eqI, pk_sub, true_and, and_true]
  exact hR _ _ (rz_nb_i (by decide)) ⟨rfl, rfl⟩
set_option maxRecDepth 100000 in
set_option maxHeartbeats 400000 in
theorem c_Mod_thrown {w : rz_w} {d : Nat} {G : rz_G} {a : Nat} {I : Nat → Int32} {A : Nat → Nat → Int32} : rz_C w d 0 0 y_Mod_thrown m_Mod_thrown [.ref a] (re_put G a I A) (fun r G' => r = some (.int (I 0)) ∧ G' = re_put G a I A) := by
  refine rz_enter' [some (.ref a)] (by decide +kernel) rfl rfl (Nat.le_of_ble_eq_true rfl) rfl ?_
  refine rz_blk' [(.aload_n 0, 1, 0, 0), (.getfield 206, 3, 10, 0), (.ireturn, 1, 0, 0)] (by decide +kernel) (Nat.le_refl _) (Nat.le_refl _) (fun K R hK hR => ?_)
  simp only [↓rx_aload_n0, ↓rx_getfield, ↓rx_ireturn, ↓rx_nil, ↓ry_lr0s, ↓ry_lr0z, ↓ry_obu, ↓ry_r1, ↓re_F0, ↓re_ob, rz_set, rz_nol, rz_clr, List.set_cons_zero, List.set_cons_succ, rz_tr, Nat.reduceAdd, Int.reduceAdd, Int.reduceToNat, Int.reduceSub, Int.reduceNeg, Int.cast_ofNat_Int]
  try simp (disch := omega) only [pk_us, pk_un, va_up_self, va_up_ne, nI_add, pk_mul, nI_clamp, vp_inT, nI_ltI, nI_leI, nI_eqI, pk_sub, true_and, and_true]
  exact hR _ _ (rz_nb_i (by decide)) ⟨rfl, rfl⟩
set_option maxRecDepth 100000 in
set_option maxHeartbeats 400000 in
theorem c_Mod_alike {w : rz_w} {d : Nat} {G : rz_G} {a : Nat} {I : Nat → Int32} {A : Nat → Nat → Int32} {u v : List Nat} (h : re_12 I A u v) : rz_C w d 0 0 y_Mod_alike m_Mod_alike [.ref a] (re_put G a I A) (fun r G' => r = some (.int (nI (lcpn u v))) ∧ G' = re_put G a I A) := by
  obtain ⟨h26, h27, h28, h29, hu, hv, hxu, hxv⟩ := h
  have lp : ∀ (k i : Nat), i + k = u.length → i ≤ v.length → (∀ j, j < i → u[j]? = v[j]?) → rz_T w d 0 0 m_Mod_alike 0 0 2 [some (.ref a), some (.int (nI i))] [] (re_put G a I A) (fun r G' => r = some (.int (nI (lcpn u v))) ∧ G' = re_put G a I A) := by
    intro k
    induction k with
    | zero =>
      intro i hik hiv hj
      have ho := lcpn_eq (u := u) (v := v) (k := i) (by omega) hiv hj (fun _ _ => by omega)
      refine rz_blk' [(.iload_n 1, 1, 0, 0), (.aload_n 0, 1, 0, 0), (.getfield 253, 3, 10, 26), (.if_icmp .ge 32, 3, 0, 0)] (by decide +kernel) (Nat.le_refl _) (Nat.le_refl _) (fun K R hK hR => ?_)
      simp only [↓rx_aload_n0, ↓rx_getfield, ↓rx_if_icmp_ge, ↓rx_iload_n1, ↓rx_nil, ↓ry_i2, ↓ry_li0s, ↓ry_li0z, ↓ry_lr0s, ↓ry_lr0z, ↓ry_obu, ↓ry_r1, ↓re_F26, ↓re_ob, h26, h27, rz_set, rz_nol, rz_clr, List.set_cons_zero, List.set_cons_succ, rz_tr, Nat.reduceAdd, Int.reduceAdd, Int.reduceToNat, Int.reduceSub, Int.reduceNeg, Int.cast_ofNat_Int]
      try simp (disch := omega) only [h26, h27, pk_us, pk_un, va_up_self, va_up_ne, nI_add, pk_mul, nI_clamp, vp_inT, nI_ltI, nI_leI, nI_eqI, pk_sub, true_and, and_true]
      refine ⟨fun q1 => hK _ _ _ _ ?_, fun q1 => by omega⟩
      refine rz_blk' [(.iload_n 1, 1, 0, 0), (.ireturn, 1, 0, 0)] (by decide +kernel) (Nat.le_refl _) (Nat.le_refl _) (fun K R hK hR => ?_)
      simp only [↓rx_iload_n1, ↓rx_ireturn, ↓rx_nil, ↓ry_li0s, ↓ry_li0z, h26, h27, rz_set, rz_nol, rz_clr, List.set_cons_zero, List.set_cons_succ, rz_tr, Nat.reduceAdd, Int.reduceAdd, Int.reduceToNat, Int.reduceSub, Int.reduceNeg, Int.cast_ofNat_Int]
      try simp (disch := omega) only [h26, h27, pk_us, pk_un, va_up_self, va_up_ne, nI_add, pk_mul, nI_clamp, vp_inT, nI_ltI, nI_leI, nI_eqI, pk_sub, true_and, and_true]
      exact hR _ _ (rz_nb_i (by decide)) ⟨by rw [ho], rfl⟩
    | succ k ih =>
      intro i hik hiv hj
      have hiu : i < u.length := by omega
      have e1 : A 28 i = nI u[i] := by have := h28 i hiu; rwa [Nat.zero_add] at this
      refine rz_blk' [(.iload_n 1, 1, 0, 0), (.aload_n 0, 1, 0, 0), (.getfield 253, 3, 10, 26), (.if_icmp .ge 32, 3, 0, 0)] (by decide +kernel) (Nat.le_refl _) (Nat.le_refl _) (fun K R hK hR => ?_)
      simp only [↓rx_aload_n0, ↓rx_getfield, ↓rx_if_icmp_ge, ↓rx_iload_n1, ↓rx_nil, ↓ry_i2, ↓ry_li0s, ↓ry_li0z, ↓ry_lr0s, ↓ry_lr0z, ↓ry_obu, ↓ry_r1, ↓re_F26, ↓re_ob, h26, h27, e1, rz_set, rz_nol, rz_clr, List.set_cons_zero, List.set_cons_succ, rz_tr, Nat.reduceAdd, Int.reduceAdd, Int.reduceToNat, Int.reduceSub, Int.reduceNeg, Int.cast_ofNat_Int]
      try simp (disch := omega) only [h26, h27, e1, pk_us, pk_un, va_up_self, va_up_ne, nI_add, pk_mul, nI_clamp, vp_inT, nI_ltI, nI_leI, nI_eqI, pk_sub, true_and, and_true]
      refine ⟨fun q2 => by omega, fun q2 => hK _ _ _ _ ?_⟩
      refine rz_blk' [(.iload_n 1, 1, 0, 0), (.aload_n 0, 1, 0, 0), (.getfield 256, 3, 10, 27), (.if_icmp .ge 24, 3, 0, 0)] (by decide +kernel) (Nat.le_refl _) (Nat.le_refl _) (fun K R hK hR => ?_)
      simp only [↓rx_aload_n0, ↓rx_getfield, ↓rx_if_icmp_ge, ↓rx_iload_n1, ↓rx_nil, ↓ry_i2, ↓ry_li0s, ↓ry_li0z, ↓ry_lr0s, ↓ry_lr0z, ↓ry_obu, ↓ry_r1, ↓re_F27, ↓re_ob, h26, h27, e1, rz_set, rz_nol, rz_clr, List.set_cons_zero, List.set_cons_succ, rz_tr, Nat.reduceAdd, Int.reduceAdd, Int.reduceToNat, Int.reduceSub, Int.reduceNeg, Int.cast_ofNat_Int]
      try simp (disch := omega) only [h26, h27, e1, pk_us, pk_un, va_up_self, va_up_ne, nI_add, pk_mul, nI_clamp, vp_inT, nI_ltI, nI_leI, nI_eqI, pk_sub, true_and, and_true]
      refine ⟨fun q3 => hK _ _ _ _ ?_, fun q3 => hK _ _ _ _ ?_⟩
      · -- 15 taken
        have ho : lcpn u v = i := lcpn_eq (by omega) hiv hj (fun c1 c2 => by first | omega | (rw [List.getElem?_eq_getElem c1, List.getElem?_eq_getElem c2]; simpa using (by assumption : ¬ u[i] = v[i])))
        refine rz_blk' [(.iload_n 1, 1, 0, 0), (.ireturn, 1, 0, 0)] (by decide +kernel) (Nat.le_refl _) (Nat.le_refl _) (fun K R hK hR => ?_)
        simp only [↓rx_iload_n1, ↓rx_ireturn, ↓rx_nil, ↓ry_li0s, ↓ry_li0z, h26, h27, e1, rz_set, rz_nol, rz_clr, List.set_cons_zero, List.set_cons_succ, rz_tr, Nat.reduceAdd, Int.reduceAdd, Int.reduceToNat, Int.reduceSub, Int.reduceNeg, Int.cast_ofNat_Int]
        try simp (disch := omega) only [h26, h27, e1, pk_us, pk_un, va_up_self, va_up_ne, nI_add, pk_mul, nI_clamp, vp_inT, nI_ltI, nI_leI, nI_eqI, pk_sub, true_and, and_true]
        exact hR _ _ (rz_nb_i (by decide)) ⟨by rw [ho], rfl⟩
      · -- 15 not taken
        refine rz_blk' [(.aload_n 0, 1, 0, 0), (.getfield 83, 3, 10, 28), (.iload_n 1, 1, 0, 0), (.iaload, 1, 0, 0), (.aload_n 0, 1, 0, 0), (.getfield 86, 3, 10, 29), (.iload_n 1, 1, 0, 0), (.iaload, 1, 0, 0), (.if_icmp .ne 9, 3, 0, 0)] (by decide +kernel) (Nat.le_refl _) (Nat.le_refl _) (fun K R hK hR => ?_)
        simp only [↓rx_aload_n0, ↓rx_getfield, ↓rx_iaload, ↓rx_if_icmp_ne, ↓rx_iload_n1, ↓rx_nil, ↓ry_i2, ↓ry_iau, ↓ry_li0s, ↓ry_li0z, ↓ry_lr0s, ↓ry_lr0z, ↓ry_obu, ↓ry_r1, ↓ry_ri, true_and, re_a28, re_a29, ↓re_F28, ↓re_F29, ↓re_i28, ↓re_i29, ↓re_ob, h26, h27, e1, rz_set, rz_nol, rz_clr, List.set_cons_zero, List.set_cons_succ, rz_tr, Nat.reduceAdd, Int.reduceAdd, Int.reduceToNat, Int.reduceSub, Int.reduceNeg, Int.cast_ofNat_Int]
        try simp (disch := omega) only [h26, h27, e1, pk_us, pk_un, va_up_self, va_up_ne, nI_add, pk_mul, nI_clamp, vp_inT, nI_ltI, nI_leI, nI_eqI, pk_sub, true_and, and_true]
        have hiv2 : i < v.length := by omega
        have e2 : A 29 i = nI v[i] := by have := h29 i hiv2; rwa [Nat.zero_add] at this
        rw [e2, nI_eq (hxu _ (List.getElem_mem hiu)) (hxv _ (List.getElem_mem hiv2))]
        refine ⟨fun q4 => hK _ _ _ _ ?_, fun q4 => hK _ _ _ _ ?_⟩
        · -- 30 taken
          have ho : lcpn u v = i := lcpn_eq (by omega) hiv hj (fun c1 c2 => by first | omega | (rw [List.getElem?_eq_getElem c1, List.getElem?_eq_getElem c2]; simpa using (by assumption : ¬ u[i] = v[i])))
          refine rz_blk' [(.iload_n 1, 1, 0, 0), (.ireturn, 1, 0, 0)] (by decide +kernel) (Nat.le_refl _) (Nat.le_refl _) (fun K R hK hR => ?_)
          simp only [↓rx_iload_n1, ↓rx_ireturn, ↓rx_nil, ↓ry_li0s, ↓ry_li0z, h26, h27, e1, rz_set, rz_nol, rz_clr, List.set_cons_zero, List.set_cons_succ, rz_tr, Nat.reduceAdd, Int.reduceAdd, Int.reduceToNat, Int.reduceSub, Int.reduceNeg, Int.cast_ofNat_Int]
          try simp (disch := omega) only [h26, h27, e1, pk_us, pk_un, va_up_self, va_up_ne, nI_add, pk_mul, nI_clamp, vp_inT, nI_ltI, nI_leI, nI_eqI, pk_sub, true_and, and_true]
          exact hR _ _ (rz_nb_i (by decide)) ⟨by rw [ho], rfl⟩
        · -- 30 not taken
          refine rz_blk' [(.iinc 1 1, 3, 0, 0)] (by decide +kernel) (Nat.le_refl _) (Nat.le_refl _) (fun K R hK hR => ?_)
          simp only [rw_c1, ↓rx_iinc, ↓rx_nil, ↓ry_li0s, ↓ry_li0z, h26, h27, e1, rz_set, rz_nol, rz_clr, List.set_cons_zero, List.set_cons_succ, rz_tr, Nat.reduceAdd, Int.reduceAdd, Int.reduceToNat, Int.reduceSub, Int.reduceNeg, Int.cast_ofNat_Int]
          try simp (disch := omega) only [h26, h27, e1, pk_us, pk_un, va_up_self, va_up_ne, nI_add, pk_mul, nI_clamp, vp_inT, nI_ltI, nI_leI, nI_eqI, pk_sub, true_and, and_true]
          refine hK _ _ _ _ ?_
          refine rz_blk' [(.goto (-34), 3, 0, 0)] (by decide +kernel) (Nat.le_refl _) (Nat.le_refl _) (fun K R hK hR => ?_)
          simp only [↓rx_goto, ↓rx_nil, h26, h27, e1, rz_set, rz_nol, rz_clr, List.set_cons_zero, List.set_cons_succ, rz_tr, Nat.reduceAdd, Int.reduceAdd, Int.reduceToNat, Int.reduceSub, Int.reduceNeg, Int.cast_ofNat_Int]
          try simp (disch := omega) only [h26, h27, e1, pk_us, pk_un, va_up_self, va_up_ne, nI_add, pk_mul, nI_clamp, vp_inT, nI_ltI, nI_leI, nI_eqI, pk_sub, true_and, and_true]
          refine hK _ _ _ _ ?_
          refine ih (i + 1) (by omega) (by omega) (fun j hj2 => ?_)
          by_cases c : j = i
          · subst c; rw [List.getElem?_eq_getElem hiu, List.getElem?_eq_getElem hiv2]; simpa using (by assumption : u[j] = v[j])
          · exact hj j (by omega)
  refine rz_enter' [some (.ref a), none] (by decide +kernel) rfl rfl (Nat.le_of_ble_eq_true rfl) rfl ?_
  refine rz_blk' [(.iconst 0, 1, 0, 0), (.istore_n 1, 1, 0, 0)] (by decide +kernel) (Nat.le_refl _) (Nat.le_refl _) (fun K R hK hR => ?_)
  simp only [rw_c0, ↓rx_iconst, ↓rx_istore_n1, ↓rx_nil, ↓ry_i1, rz_set, rz_nol, rz_clr, List.set_cons_zero, List.set_cons_succ, rz_tr, Nat.reduceAdd, Int.reduceAdd, Int.reduceToNat, Int.reduceSub, Int.reduceNeg, Int.cast_ofNat_Int]
  try simp (disch := omega) only [pk_us, pk_un, va_up_self, va_up_ne, nI_add, pk_mul, nI_clamp, vp_inT, nI_ltI, nI_leI, nI_eqI, pk_sub, true_and, and_true]
  refine hK _ _ _ _ ?_
  exact lp u.length 0 (by omega) (Nat.zero_le _) (fun j q => absurd q (Nat.not_lt_zero _))
