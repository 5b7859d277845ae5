/-! the reference: loadStarts, differsFromStart, spell, tellWord, functionOf, isFunction -/
def xd_st (T1 T2 : mv_T) : List ps_nd := if T1.1.testBit 0 = true ∧ T2.1.testBit 0 = true then [xf_mk 0 0 false T1.2.2.2 T2.2.2.2] else []
theorem xw_len {I : Nat → Int32} {A : Nat → Nat → Int32} {W : List (List Nat)} (h : xw_is I A W) : ∀ (n k : Nat) (u : List Nat), k ≤ n → W[k]? = some u → u.length ≤ k ∧ ∀ x ∈ u, x < 3 := by
  intro n
  induction n with
  | zero =>
    intro k u hk hu
    have e : k = 0 := by omega
    subst e
    rw [h.2.2.1] at hu; cases hu; simp
  | succ n ih =>
    intro k u hk hu
    by_cases c : k = 0
    · subst c; rw [h.2.2.1] at hu; cases hu; simp
    · obtain ⟨b, x, v, h1, h2, -, -, h5, h6⟩ := h.2.2.2 k (by omega) (List.getElem?_eq_some_iff.mp hu).1
      rw [hu] at h6
      cases h6
      have := ih b v (by omega) h5
      refine ⟨by simp; omega, fun y hy => ?_⟩
      rcases List.mem_append.mp hy with q | q
      · exact this.2 y q
      · simp at q; omega
theorem re_uu {I : Nat → Int32} {k : Nat} {u v : Int32} : upd (upd I k u) k v = upd I k v := by
  funext j
  by_cases c : j = k
  · subst c; rw [pk_us, pk_us]
  · rw [pk_un c, pk_un c, pk_un c]
theorem ft_fa {h : Nat} {A A' : Nat → Nat → Int32} (x : ft h A A') : fa [14, 15, 16, 17, 18, 19, 20, 21, 22, 23, 24] A A' := fun f hf => x.fa f (by
  simp at hf; omega)
theorem fa.t' {K K1 K2 : List Nat} {A A1 A2 : Nat → Nat → Int32} (h : fa K1 A A1) (h2 : fa K2 A1 A2) (hk1 : K1.all (fun k => K.contains k) = true) (hk2 : K2.all (fun k => K.contains k) = true) : fa K A A2 := (h.m hk1).t h2 hk2
theorem fi.t' {K K1 K2 : List Nat} {I I1 I2 : Nat → Int32} (h : fi K1 I I1) (h2 : fi K2 I1 I2) (hk1 : K1.all (fun k => K.contains k) = true) (hk2 : K2.all (fun k => K.contains k) = true) : fi K I I2 := (h.m hk1).t h2 hk2
/-- what is found stands in apart -/
def xf_is (T1 T2 : mv_T) (S : List ps_nd) (I : Nat → Int32) (A : Nat → Nat → Int32) (b : Bool) (u : List Nat) : Prop := ∃ W k, (b = true → I 41 = nI k) ∧ xw_is I A W ∧ W.length ≤ 4096 ∧ W[k]? = some u ∧ xm_is T1 T2 S b u
theorem nI_le0 {k : Nat} (hk : k < 2 ^ 31) : (nI k ≤ 0) = (k = 0) := by
  rw [show (0 : Int32) = nI 0 from rfl, nI_leI hk (by decide)]
  exact propext (by omega)
set_option maxRecDepth 100000 in
set_option maxHeartbeats 400000 in
theorem c_Mod_loadStarts {w : rz_w} {d : Nat} {G : rz_G} {a : Nat} {I : Nat → Int32} {A : Nat → Nat → Int32} {T1 T2 : mv_T} {g hh : Nat} (hg : g < 2) (hh2 : hh < 2) (t1 : re_t A g T1) (t2 : re_t A hh T2) (w1 : tw T1 32) (w2 : tw T2 32) : rz_C w d 0 0 y_Mod_loadStarts m_Mod_loadStarts [.ref a, .int (nI g), .int (nI hh)] (re_put G a I A) (fun (r : Option Value) (G' : rz_G) => r = none ∧ ∃ I' A', G' = re_put G a I' A' ∧ fi [26, 27] I I' ∧ fa [28, 29] A A' ∧ re_12 I' A' T1.2.2.2 T2.2.2.2) := by
  generalize hQ : (fun (r : Option Value) (G' : rz_G) => r = none ∧ ∃ I' A', G' = re_put G a I' A' ∧ fi [26, 27] I I' ∧ fa [28, 29] A A' ∧ re_12 I' A' T1.2.2.2 T2.2.2.2) = Q
  obtain ⟨-, -, -, -, u5, u6⟩ := id t1
  obtain ⟨-, -, -, -, v5, v6⟩ := id t2
  have b1 := w1.2.2.2.2.2
  have b2 := w2.2.2.2.2.2
  generalize hJ : upd (upd I 26 (nI T1.2.2.2.length)) 27 (nI T2.2.2.2.length) = J
  have lp : ∀ (j i : Nat) (A1 : Nat → Nat → Int32), i + j = 32 → fa [28, 29] A A1 → (∀ k, k < i → A1 28 k = A 24 (32 * g + k) ∧ A1 29 k = A 24 (32 * hh + k)) → rz_T w d 0 0 m_Mod_loadStarts 0 0 22 [some (.ref a), some (.int (nI g)), some (.int (nI hh)), some (.int (nI i))] [] (re_put G a J A1) Q := by
    intro j
    induction j with
    | zero =>
      intro i A1 hij ka hk
      have hi : i = 32 := by omega
      subst hi
      refine rz_blk' [(.iload_n 3, 1, 0, 0), (.bipush 32, 2, 0, 0), (.if_icmp .ge 43, 3, 0, 0)] (by decide +kernel) (Nat.le_refl _) (Nat.le_refl _) (fun K R hK hR => ?_)
      simp only [rw_b32, ↓rx_bipush, ↓rx_if_icmp_ge, ↓rx_iload_n3, ↓rx_nil, ↓ry_i2, ↓ry_li0s, ↓ry_li0z, rz_set, rz_nol, rz_clr, List.set_cons_zero, List.set_cons_succ, rz_tr, Nat.reduceAdd, Int.reduceAdd, Int.reduceToNat, Int.reduceSub, Int.reduceNeg, Int.cast_ofNat_Int]
      try simp (disch := omega) only [pk_us, pk_un, va_up_self, va_up_ne, nI_add, pk_mul, nI_clamp, vp_inT, nI_ltI, nI_leI, nI_eqI, pk_sub, true_and, and_true]
      refine ⟨fun q1 => hK _ _ _ _ ?_, fun q1 => by omega⟩
      refine rz_blk' [(.return_, 1, 0, 0)] (by decide +kernel) (Nat.le_refl _) (Nat.le_refl _) (fun K R hK hR => ?_)
      simp only [↓rx_nil, ↓rx_return_, rz_set, rz_nol, rz_clr, List.set_cons_zero, List.set_cons_succ, rz_tr, Nat.reduceAdd, Int.reduceAdd, Int.reduceToNat, Int.reduceSub, Int.reduceNeg, Int.cast_ofNat_Int]
      try simp (disch := omega) only [pk_us, pk_un, va_up_self, va_up_ne, nI_add, pk_mul, nI_clamp, vp_inT, nI_ltI, nI_leI, nI_eqI, pk_sub, true_and, and_true]
      refine hR _ _ (rz_nb_i (by decide)) ?_
      rw [← hQ]
      refine ⟨rfl, _, _, rfl, ?_, ka, ?_, ?_, fun k h => ?_, fun k h => ?_, by omega, by omega, lt8 b1.2, lt8 b2.2⟩
      · rw [← hJ]; exact (fi.rf.u rfl).u rfl
      · rw [← hJ, pk_un (by decide), pk_us]
      · rw [← hJ, pk_us]
      · rw [Nat.zero_add, (hk k (by omega)).1]; exact u6 k h
      · rw [Nat.zero_add, (hk k (by omega)).2]; exact v6 k h
    | succ j ih =>
      intro i A1 hij ka hk
      have e24 := ka 24 rfl
      refine rz_blk' [(.iload_n 3, 1, 0, 0), (.bipush 32, 2, 0, 0), (.if_icmp .ge 43, 3, 0, 0)] (by decide +kernel) (Nat.le_refl _) (Nat.le_refl _) (fun K R hK hR => ?_)
      simp only [rw_b32, ↓rx_bipush, ↓rx_if_icmp_ge, ↓rx_iload_n3, ↓rx_nil, ↓ry_i2, ↓ry_li0s, ↓ry_li0z, e24, rz_set, rz_nol, rz_clr, List.set_cons_zero, List.set_cons_succ, rz_tr, Nat.reduceAdd, Int.reduceAdd, Int.reduceToNat, Int.reduceSub, Int.reduceNeg, Int.cast_ofNat_Int]
      try simp (disch := omega) only [e24, pk_us, pk_un, va_up_self, va_up_ne, nI_add, pk_mul, nI_clamp, vp_inT, nI_ltI, nI_leI, nI_eqI, pk_sub, true_and, and_true]
      refine ⟨fun q2 => by omega, fun q2 => hK _ _ _ _ ?_⟩
      refine rz_blk' [(.aload_n 0, 1, 0, 0), (.getfield 83, 3, 10, 28), (.iload_n 3, 1, 0, 0), (.aload_n 0, 1, 0, 0), (.getfield 77, 3, 10, 24), (.bipush 32, 2, 0, 0), (.iload_n 1, 1, 0, 0), (.imul, 1, 0, 0), (.iload_n 3, 1, 0, 0), (.iadd, 1, 0, 0), (.iaload, 1, 0, 0), (.iastore, 1, 0, 0)] (by decide +kernel) (Nat.le_refl _) (Nat.le_refl _) (fun K R hK hR => ?_)
      simp only [rw_b32, ↓rx_aload_n0, ↓rx_bipush, ↓rx_getfield, ↓rx_iadd, ↓rx_iaload, ↓rx_iastore, ↓rx_iload_n1, ↓rx_iload_n3, ↓rx_imul, ↓rx_nil, ↓ry_i2, ↓ry_iau, ↓ry_li0s, ↓ry_li0z, ↓ry_lr0s, ↓ry_lr0z, ↓ry_obu, ↓ry_r1, ↓ry_ri, ↓ry_rii, true_and, re_a24, re_a28, ↓re_F24, ↓re_F28, ↓re_i24, ↓re_i28, ↓re_ob, e24, rz_set, rz_nol, rz_clr, List.set_cons_zero, List.set_cons_succ, rz_tr, Nat.reduceAdd, Int.reduceAdd, Int.reduceToNat, Int.reduceSub, Int.reduceNeg, Int.cast_ofNat_Int]
      try simp (disch := omega) only [e24, pk_us, pk_un, va_up_self, va_up_ne, nI_add, pk_mul, nI_clamp, vp_inT, nI_ltI, nI_leI, nI_eqI, pk_sub, true_and, and_true]
      refine hK _ _ _ _ ?_
      refine rz_blk' [(.aload_n 0, 1, 0, 0), (.getfield 86, 3, 10, 29), (.iload_n 3, 1, 0, 0), (.aload_n 0, 1, 0, 0), (.getfield 77, 3, 10, 24), (.bipush 32, 2, 0, 0), (.iload_n 2, 1, 0, 0), (.imul, 1, 0, 0), (.iload_n 3, 1, 0, 0), (.iadd, 1, 0, 0), (.iaload, 1, 0, 0), (.iastore, 1, 0, 0)] (by decide +kernel) (Nat.le_refl _) (Nat.le_refl _) (fun K R hK hR => ?_)
      simp only [rw_b32, ↓rx_aload_n0, ↓rx_bipush, ↓rx_getfield, ↓rx_iadd, ↓rx_iaload, ↓rx_iastore, ↓rx_iload_n2, ↓rx_iload_n3, ↓rx_imul, ↓rx_nil, ↓ry_i2, ↓ry_iau, ↓ry_li0s, ↓ry_li0z, ↓ry_lr0s, ↓ry_lr0z, ↓ry_obu, ↓ry_r1, ↓ry_ri, ↓ry_rii, true_and, re_a24, re_a29, ↓re_F24, ↓re_F29, ↓re_i24, ↓re_i29, ↓re_ob, e24, rz_set, rz_nol, rz_clr, List.set_cons_zero, List.set_cons_succ, rz_tr, Nat.reduceAdd, Int.reduceAdd, Int.reduceToNat, Int.reduceSub, Int.reduceNeg, Int.cast_ofNat_Int]
      try simp (disch := omega) only [e24, pk_us, pk_un, va_up_self, va_up_ne, nI_add, pk_mul, nI_clamp, vp_inT, nI_ltI, nI_leI, nI_eqI, pk_sub, true_and, and_true]
      refine hK _ _ _ _ ?_
      refine rz_blk' [(.iinc 3 1, 3, 0, 0)] (by decide +kernel) (Nat.le_refl _) (Nat.le_refl _) (fun K R hK hR => ?_)
      simp only [rw_c1, ↓rx_iinc, ↓rx_nil, ↓ry_li0s, ↓ry_li0z, e24, rz_set, rz_nol, rz_clr, List.set_cons_zero, List.set_cons_succ, rz_tr, Nat.reduceAdd, Int.reduceAdd, Int.reduceToNat, Int.reduceSub, Int.reduceNeg, Int.cast_ofNat_Int]
      try simp (disch := omega) only [e24, pk_us, pk_un, va_up_self, va_up_ne, nI_add, pk_mul, nI_clamp, vp_inT, nI_ltI, nI_leI, nI_eqI, pk_sub, true_and, and_true]
      refine hK _ _ _ _ ?_
      refine rz_blk' [(.goto (-43), 3, 0, 0)] (by decide +kernel) (Nat.le_refl _) (Nat.le_refl _) (fun K R hK hR => ?_)
      simp only [↓rx_goto, ↓rx_nil, e24, rz_set, rz_nol, rz_clr, List.set_cons_zero, List.set_cons_succ, rz_tr, Nat.reduceAdd, Int.reduceAdd, Int.reduceToNat, Int.reduceSub, Int.reduceNeg, Int.cast_ofNat_Int]
      try simp (disch := omega) only [e24, pk_us, pk_un, va_up_self, va_up_ne, nI_add, pk_mul, nI_clamp, vp_inT, nI_ltI, nI_leI, nI_eqI, pk_sub, true_and, and_true]
      refine hK _ _ _ _ ?_
      refine ih (i + 1) _ (by omega) ((ka.u rfl).u rfl) (fun k hk2 => ?_)
      rw [va_up_self, va_up_ne _ _ (by decide), va_up_self]
      by_cases c : k = i
      · subst c; rw [pk_us, pk_us]; exact ⟨rfl, rfl⟩
      · rw [pk_un c, pk_un c]; exact hk k (by omega)
  refine rz_enter' [some (.ref a), some (.int (nI g)), some (.int (nI hh)), none] (by decide +kernel) rfl rfl (Nat.le_of_ble_eq_true rfl) rfl ?_
  refine rz_blk' [(.aload_n 0, 1, 0, 0), (.aload_n 0, 1, 0, 0), (.getfield 74, 3, 10, 23), (.iload_n 1, 1, 0, 0), (.iaload, 1, 0, 0), (.putfield 253, 3, 10, 26)] (by decide +kernel) (Nat.le_refl _) (Nat.le_refl _) (fun K R hK hR => ?_)
  simp only [List.length_cons, List.length_nil, Nat.reduceLT, rf_10_26, ↓rx_aload_n0, ↓rx_getfield, ↓rx_iaload, ↓rx_iload_n1, ↓rx_nil, ↓rx_putfield, ↓ry_iau, ↓ry_li0s, ↓ry_li0z, ↓ry_lr0s, ↓ry_lr0z, ↓ry_obu, ↓ry_r1, ↓ry_ri, ↓ry_vr, true_and, re_a23, re_len, re_u26, ↓re_F23, ↓re_i23, ↓re_ob, u5, v5, rz_set, rz_nol, rz_clr, List.set_cons_zero, List.set_cons_succ, rz_tr, Nat.reduceAdd, Int.reduceAdd, Int.reduceToNat, Int.reduceSub, Int.reduceNeg, Int.cast_ofNat_Int]
  try simp (disch := omega) only [u5, v5, pk_us, pk_un, va_up_self, va_up_ne, nI_add, pk_mul, nI_clamp, vp_inT, nI_ltI, nI_leI, nI_eqI, pk_sub, true_and, and_true]
  refine hK _ _ _ _ ?_
  refine rz_blk' [(.aload_n 0, 1, 0, 0), (.aload_n 0, 1, 0, 0), (.getfield 74, 3, 10, 23), (.iload_n 2, 1, 0, 0), (.iaload, 1, 0, 0), (.putfield 256, 3, 10, 27)] (by decide +kernel) (Nat.le_refl _) (Nat.le_refl _) (fun K R hK hR => ?_)
  simp only [List.length_cons, List.length_nil, Nat.reduceLT, rf_10_27, ↓rx_aload_n0, ↓rx_getfield, ↓rx_iaload, ↓rx_iload_n2, ↓rx_nil, ↓rx_putfield, ↓ry_iau, ↓ry_li0s, ↓ry_li0z, ↓ry_lr0s, ↓ry_lr0z, ↓ry_obu, ↓ry_r1, ↓ry_ri, ↓ry_vr, true_and, re_a23, re_len, re_u27, ↓re_F23, ↓re_i23, ↓re_ob, u5, v5, rz_set, rz_nol, rz_clr, List.set_cons_zero, List.set_cons_succ, rz_tr, Nat.reduceAdd, Int.reduceAdd, Int.reduceToNat, Int.reduceSub, Int.reduceNeg, Int.cast_ofNat_Int]
  try simp (disch := omega) only [u5, v5, pk_us, pk_un, va_up_self, va_up_ne, nI_add, pk_mul, nI_clamp, vp_inT, nI_ltI, nI_leI, nI_eqI, pk_sub, true_and, and_true]
  refine hK _ _ _ _ ?_
  refine rz_blk' [(.iconst 0, 1, 0, 0), (.istore_n 3, 1, 0, 0)] (by decide +kernel) (Nat.le_refl _) (Nat.le_refl _) (fun K R hK hR => ?_)
  simp only [rw_c0, ↓rx_iconst, ↓rx_istore_n3, ↓rx_nil, ↓ry_i1, u5, v5, rz_set, rz_nol, rz_clr, List.set_cons_zero, List.set_cons_succ, rz_tr, Nat.reduceAdd, Int.reduceAdd, Int.reduceToNat, Int.reduceSub, Int.reduceNeg, Int.cast_ofNat_Int]
  try simp (disch := omega) only [u5, v5, pk_us, pk_un, va_up_self, va_up_ne, nI_add, pk_mul, nI_clamp, vp_inT, nI_ltI, nI_leI, nI_eqI, pk_sub, true_and, and_true]
  refine hK _ _ _ _ ?_
  rw [hJ]
  exact lp 32 0 A rfl fa.rf (fun k hk => absurd hk (Nat.not_lt_zero _))
set_option maxRecDepth 100000 in
set_option maxHeartbeats 4000000 in
theorem c_Mod_differsFromStart {w : rz_w} {d : Nat} {G : rz_G} {a : Nat} {I : Nat → Int32} {A : Nat → Nat → Int32} {T1 T2 : mv_T} {g hh : Nat} (hg : g < 2) (hh2 : hh < 2) (t1 : re_t A g T1) (t2 : re_t A hh T2) (w1 : tw T1 3) (w2 : tw T2 3) : rz_C w (d + 4) 0 0 y_Mod_differsFromStart m_Mod_differsFromStart [.ref a, .int (nI g), .int (nI hh)] (re_put G a I A) (fun (r : Option Value) (G' : rz_G) => ∃ I' A' b u, r = some (.int (rz_b b)) ∧ G' = re_put G a I' A' ∧ fi [26, 27, 30, 38, 41] I I' ∧ fa [25, 28, 29, 31, 32, 33, 34, 35, 36, 37, 39, 40] A A' ∧ xf_is T1 T2 (xd_st T1 T2) I' A' b u) := by
  generalize hQ : (fun (r : Option Value) (G' : rz_G) => ∃ I' A' b u, r = some (.int (rz_b b)) ∧ G' = re_put G a I' A' ∧ fi [26, 27, 30, 38, 41] I I' ∧ fa [25, 28, 29, 31, 32, 33, 34, 35, 36, 37, 39, 40] A A' ∧ xf_is T1 T2 (xd_st T1 T2) I' A' b u) = Q
  have w1' := tw_m w1 (show 3 ≤ 32 by decide)
  have w2' := tw_m w2 (show 3 ≤ 32 by decide)
  have hbp := c_Mod_beginPairs (w := w) (d := d + 2) (G := G) (a := a) (I := I) (A := A) 3 3 hg hh2 t1 t2 w1' w2'
  refine rz_enter' [some (.ref a), some (.int (nI g)), some (.int (nI hh))] (by decide +kernel) rfl rfl (Nat.le_of_ble_eq_true rfl) rfl ?_
  refine rz_blk' [(.aload_n 0, 1, 0, 0), (.iload_n 1, 1, 0, 0), (.iload_n 2, 1, 0, 0)] (by decide +kernel) (Nat.le_refl _) (Nat.le_refl _) (fun K R hK hR => ?_)
  simp only [↓rx_aload_n0, ↓rx_iload_n1, ↓rx_iload_n2, ↓rx_nil, ↓ry_li0s, ↓ry_li0z, ↓ry_lr0s, ↓ry_lr0z, rz_set, rz_nol, rz_clr, List.set_cons_zero, List.set_cons_succ, rz_tr, Nat.reduceAdd, Int.reduceAdd, Int.reduceToNat, Int.reduceSub, Int.reduceNeg, Int.cast_ofNat_Int]
  try simp (disch := omega) only [pk_us, pk_un, va_up_self, va_up_ne, nI_add, pk_mul, nI_clamp, vp_inT, nI_ltI, nI_leI, nI_eqI, pk_sub, true_and, and_true]
  refine hK _ _ _ _ ?_
  refine rz_cV (As := [.int (nI g), .int (nI hh)]) (b := a) (S := []) l_Mod_300 (by decide +kernel) rfl re_at0 rfl (Nat.le_of_ble_eq_true rfl) (Nat.le_refl _) (Nat.le_refl _) (hbp) (fun r G' hr => ?_)
  obtain ⟨rfl, I1, A1, c, rfl, i1, a1, hc, hrk, hn, hk, hw⟩ := hr
  simp only [Option.toList, List.nil_append]
  have t1' := re_t_fa t1 a1 rfl
  have t2' := re_t_fa t2 a1 rfl
  have x1 := t1'.1 0 (by decide)
  have x2 := t2'.1 0 (by decide)
  rw [Nat.add_zero] at x1 x2
  refine rz_blk' [(.aload_n 0, 1, 0, 0), (.getfield 46, 3, 10, 14), (.bipush 6, 2, 0, 0), (.iload_n 1, 1, 0, 0), (.imul, 1, 0, 0), (.baload, 1, 0, 0), (.ifCond .eq 15, 3, 0, 0)] (by decide +kernel) (Nat.le_refl _) (Nat.le_refl _) (fun K R hK hR => ?_)
  simp only [Nat.reduceEqDiff, false_or, or_false, or_true, reduceIte, rw_b6, ↓rx_aload_n0, ↓rx_baload, ↓rx_bipush, ↓rx_getfield, ↓rx_ifCond_eq, ↓rx_iload_n1, ↓rx_imul, ↓rx_nil, ↓ry_i1, ↓ry_i2, ↓ry_iau, ↓ry_li0s, ↓ry_li0z, ↓ry_lr0s, ↓ry_lr0z, ↓ry_obu, ↓ry_r1, ↓ry_ri, true_and, true_or, re_a14, ↓re_F14, ↓re_i14, ↓re_ob, x1, x2, rz_set, rz_nol, rz_clr, List.set_cons_zero, List.set_cons_succ, rz_tr, Nat.reduceAdd, Int.reduceAdd, Int.reduceToNat, Int.reduceSub, Int.reduceNeg, Int.cast_ofNat_Int]
  try simp (disch := omega) only [x1, x2, rb_0, Bool.not_eq_false, pk_us, pk_un, va_up_self, va_up_ne, nI_add, pk_mul, nI_clamp, vp_inT, nI_ltI, nI_leI, nI_eqI, pk_sub, true_and, and_true]
  refine ⟨fun q1 => hK _ _ _ _ ?_, fun q1 => hK _ _ _ _ ?_⟩
  · -- 15 taken
    refine rz_blk' [(.iconst 0, 1, 0, 0), (.ireturn, 1, 0, 0)] (by decide +kernel) (Nat.le_refl _) (Nat.le_refl _) (fun K R hK hR => ?_)
    simp only [rw_c0, ↓rx_iconst, ↓rx_ireturn, ↓rx_nil, x1, x2, rz_set, rz_nol, rz_clr, List.set_cons_zero, List.set_cons_succ, rz_tr, Nat.reduceAdd, Int.reduceAdd, Int.reduceToNat, Int.reduceSub, Int.reduceNeg, Int.cast_ofNat_Int]
    try simp (disch := omega) only [x1, x2, rb_0, Bool.not_eq_false, pk_us, pk_un, va_up_self, va_up_ne, nI_add, pk_mul, nI_clamp, vp_inT, nI_ltI, nI_leI, nI_eqI, pk_sub, true_and, and_true]
    refine hR _ _ rz_nb_0 ?_
    rw [← hQ]
    refine ⟨_, _, false, [], rfl, rfl, i1.m rfl, a1.m rfl, [[]], 0, (fun q => by cases q), hw, by simp, rfl, Or.inl ⟨rfl, fun v hv => ?_⟩⟩
    obtain ⟨s, hs, -⟩ := hv
    have e : xd_st T1 T2 = [] := by
      unfold xd_st
      rw [if_neg]
      rintro ⟨q1, q2⟩
      first
        | (rw [(by assumption : T1.1.testBit 0 = false)] at q1; cases q1)
        | (rw [(by assumption : T2.1.testBit 0 = false)] at q2; cases q2)
    rw [e] at hs
    cases hs
  · -- 15 not taken
    refine rz_blk' [(.aload_n 0, 1, 0, 0), (.getfield 46, 3, 10, 14), (.bipush 6, 2, 0, 0), (.iload_n 2, 1, 0, 0), (.imul, 1, 0, 0), (.baload, 1, 0, 0), (.ifCond .ne 5, 3, 0, 0)] (by decide +kernel) (Nat.le_refl _) (Nat.le_refl _) (fun K R hK hR => ?_)
    simp only [Nat.reduceEqDiff, false_or, or_false, or_true, reduceIte, rw_b6, ↓rx_aload_n0, ↓rx_baload, ↓rx_bipush, ↓rx_getfield, ↓rx_ifCond_ne, ↓rx_iload_n2, ↓rx_imul, ↓rx_nil, ↓ry_i1, ↓ry_i2, ↓ry_iau, ↓ry_li0s, ↓ry_li0z, ↓ry_lr0s, ↓ry_lr0z, ↓ry_obu, ↓ry_r1, ↓ry_ri, true_and, true_or, re_a14, ↓re_F14, ↓re_i14, ↓re_ob, x1, x2, rz_set, rz_nol, rz_clr, List.set_cons_zero, List.set_cons_succ, rz_tr, Nat.reduceAdd, Int.reduceAdd, Int.reduceToNat, Int.reduceSub, Int.reduceNeg, Int.cast_ofNat_Int]
    try simp (disch := omega) only [x1, x2, rb_0, Bool.not_eq_false, pk_us, pk_un, va_up_self, va_up_ne, nI_add, pk_mul, nI_clamp, vp_inT, nI_ltI, nI_leI, nI_eqI, pk_sub, true_and, and_true]
    refine ⟨fun q2 => hK _ _ _ _ ?_, fun q2 => hK _ _ _ _ ?_⟩
    · -- 27 taken
      refine rz_blk' [(.aload_n 0, 1, 0, 0), (.iload_n 1, 1, 0, 0), (.iload_n 2, 1, 0, 0)] (by decide +kernel) (Nat.le_refl _) (Nat.le_refl _) (fun K R hK hR => ?_)
      simp only [↓rx_aload_n0, ↓rx_iload_n1, ↓rx_iload_n2, ↓rx_nil, ↓ry_li0s, ↓ry_li0z, ↓ry_lr0s, ↓ry_lr0z, x1, x2, rz_set, rz_nol, rz_clr, List.set_cons_zero, List.set_cons_succ, rz_tr, Nat.reduceAdd, Int.reduceAdd, Int.reduceToNat, Int.reduceSub, Int.reduceNeg, Int.cast_ofNat_Int]
      try simp (disch := omega) only [x1, x2, rb_0, Bool.not_eq_false, pk_us, pk_un, va_up_self, va_up_ne, nI_add, pk_mul, nI_clamp, vp_inT, nI_ltI, nI_leI, nI_eqI, pk_sub, true_and, and_true]
      refine hK _ _ _ _ ?_
      have hl := c_Mod_loadStarts (w := w) (d := d + 3) (G := G) (a := a) (I := I1) (A := A1) hg hh2 t1' t2' w1' w2'
      refine rz_cV (As := [.int (nI g), .int (nI hh)]) (b := a) (S := []) l_Mod_303 (by decide +kernel) rfl re_at0 rfl (Nat.le_of_ble_eq_true rfl) (Nat.le_refl _) (Nat.le_refl _) (hl) (fun r G' hr => ?_)
      obtain ⟨rfl, I2, A2, rfl, i2, a2, h12⟩ := hr
      simp only [Option.toList, List.nil_append]
      have hb1 := w1.2.2.2.2.2
      have hb2 := w2.2.2.2.2.2
      have hf := c_Mod_follow (w := w) (d := d + 2) (G := G) (a := a) (I := I2) (A := A2) (N := []) (c := c) (p := 0) (q := 0) (o := 0) (b := false) (B0 := 3) (b0 := 3) h12 (xn_keep hn (i2 30 rfl) a2 rfl) (xk_keep hk a2 rfl) (fun i hi => by rw [a2 25 rfl]; exact hc i hi) (by decide) (by decide) (by decide) hb1.2 hb2.2 (by simp; omega) (by simp; omega) (by decide)
      refine rz_blk' [(.aload_n 0, 1, 0, 0), (.iconst 0, 1, 0, 0), (.iconst 0, 1, 0, 0), (.iconst 0, 1, 0, 0), (.iconst 0, 1, 0, 0)] (by decide +kernel) (Nat.le_refl _) (Nat.le_refl _) (fun K R hK hR => ?_)
      simp only [rw_c0, ↓rx_aload_n0, ↓rx_iconst, ↓rx_nil, ↓ry_lr0s, ↓ry_lr0z, x1, x2, rz_set, rz_nol, rz_clr, List.set_cons_zero, List.set_cons_succ, rz_tr, Nat.reduceAdd, Int.reduceAdd, Int.reduceToNat, Int.reduceSub, Int.reduceNeg, Int.cast_ofNat_Int]
      try simp (disch := omega) only [x1, x2, rb_0, Bool.not_eq_false, pk_us, pk_un, va_up_self, va_up_ne, nI_add, pk_mul, nI_clamp, vp_inT, nI_ltI, nI_leI, nI_eqI, pk_sub, true_and, and_true]
      refine hK _ _ _ _ ?_
      refine rz_cV (As := [.int (nI 0), .int (nI 0), .int (rz_b false), .int (nI 0)]) (b := a) (S := []) l_Mod_279 (by decide +kernel) rfl re_at0 rfl (Nat.le_of_ble_eq_true rfl) (Nat.le_refl _) (Nat.le_refl _) (hf) (fun r G' hr => ?_)
      obtain ⟨rfl, I3, A3, rfl, i3, a3, hn3, hk3⟩ := hr
      simp only [Option.toList, List.nil_append]
      have a4 : fa [25, 28, 29, 31, 32, 33, 34, 35, 36, 37, 39, 40] A1 A3 := (a2.m rfl).t a3 rfl
      generalize hnn : xf_mk 0 0 false T1.2.2.2 T2.2.2.2 = n at *
      have nok : xn_ok n := by rw [← hnn]; exact xf_ok (by decide) (by decide) hb1.2 hb2.2
      have hdd : ((xf_add c [] n 0).map (fun x => x.1)).Nodup := (xf_add_r (R := fun _ => True) (N := []) (n := n) (o := 0) trivial).2 (by simp)
      have h00 : ∀ x ∈ xf_add c [] n 0, x.1 = n ∧ x.2 = 0 := fun x hx => by
        unfold xf_add at hx
        split at hx
        · cases hx
        · simp at hx; subst hx; exact ⟨rfl, rfl⟩
      have hse := c_Mod_searches (w := w) (d := d) (G := G) (a := a) (B0 := 3) (b0 := 3) (c := c) hg hh2 (re_t_fa (re_t_fa t1' a2 rfl) a3 rfl) (re_t_fa (re_t_fa t2' a2 rfl) a3 rfl) w1 w2 (by decide) hn3 hk3 (fun i hi => by rw [a3 25 rfl, a2 25 rfl]; exact hc i hi) (xw_keep hw ((i3 38 rfl).trans (i2 38 rfl)) ((a3 39 rfl).trans (a2 39 rfl)) ((a3 40 rfl).trans (a2 40 rfl))) hdd (fun x hx => (h00 x hx).2) (by decide)
      refine rz_blk' [(.aload_n 0, 1, 0, 0), (.iload_n 1, 1, 0, 0), (.iload_n 2, 1, 0, 0)] (by decide +kernel) (Nat.le_refl _) (Nat.le_refl _) (fun K R hK hR => ?_)
      simp only [↓rx_aload_n0, ↓rx_iload_n1, ↓rx_iload_n2, ↓rx_nil, ↓ry_li0s, ↓ry_li0z, ↓ry_lr0s, ↓ry_lr0z, x1, x2, rz_set, rz_nol, rz_clr, List.set_cons_zero, List.set_cons_succ, rz_tr, Nat.reduceAdd, Int.reduceAdd, Int.reduceToNat, Int.reduceSub, Int.reduceNeg, Int.cast_ofNat_Int]
      try simp (disch := omega) only [x1, x2, rb_0, Bool.not_eq_false, pk_us, pk_un, va_up_self, va_up_ne, nI_add, pk_mul, nI_clamp, vp_inT, nI_ltI, nI_leI, nI_eqI, pk_sub, true_and, and_true]
      refine hK _ _ _ _ ?_
      refine rz_cV (As := [.int (nI g), .int (nI hh)]) (b := a) (S := []) l_Mod_306 (by decide +kernel) rfl re_at0 rfl (Nat.le_of_ble_eq_true rfl) (Nat.le_refl _) (Nat.le_refl _) (hse) (fun r G' hr => ?_)
      obtain ⟨I5, A5, N5, W5, b, rfl, rfl, i5, a5, hw5, hl5, hend⟩ := hr
      simp only [Option.toList, List.cons_append, List.nil_append]
      refine rz_blk' [(.ireturn, 1, 0, 0)] (by decide +kernel) (Nat.le_refl _) (Nat.le_refl _) (fun K R hK hR => ?_)
      simp only [↓rx_ireturn, ↓rx_nil, x1, x2, rz_set, rz_nol, rz_clr, List.set_cons_zero, List.set_cons_succ, rz_tr, Nat.reduceAdd, Int.reduceAdd, Int.reduceToNat, Int.reduceSub, Int.reduceNeg, Int.cast_ofNat_Int]
      try simp (disch := omega) only [x1, x2, rb_0, Bool.not_eq_false, pk_us, pk_un, va_up_self, va_up_ne, nI_add, pk_mul, nI_clamp, vp_inT, nI_ltI, nI_leI, nI_eqI, pk_sub, true_and, and_true]
      have hst : xd_st T1 T2 = [n] := by
        unfold xd_st
        rw [if_pos ⟨by assumption, by assumption⟩, hnn]
      obtain ⟨k, u, y1, y2, y3, y4⟩ := xs_min (S := [n]) hrk w1' w2' (fun s hs => by
        simp at hs
        subst hs
        exact ⟨nok, xf_add_cov (by simp) (by simp)⟩) (fun x hx => by simp [h00 x hx]) hw5 hend
      refine hR _ _ rz_b_nb ?_
      rw [← hQ]
      refine ⟨_, _, b, u, rfl, rfl, ((i1.m rfl).t ((i2.m (K := [26, 27, 30, 38, 41]) rfl).t i3 rfl) rfl).t i5 rfl, ((a1.m rfl).t a4 rfl).t a5 rfl, W5, k, y1, hw5, by omega, y3, ?_⟩
      rw [hst]
      exact y4
    · -- 27 not taken
      refine rz_blk' [(.iconst 0, 1, 0, 0), (.ireturn, 1, 0, 0)] (by decide +kernel) (Nat.le_refl _) (Nat.le_refl _) (fun K R hK hR => ?_)
      simp only [rw_c0, ↓rx_iconst, ↓rx_ireturn, ↓rx_nil, x1, x2, rz_set, rz_nol, rz_clr, List.set_cons_zero, List.set_cons_succ, rz_tr, Nat.reduceAdd, Int.reduceAdd, Int.reduceToNat, Int.reduceSub, Int.reduceNeg, Int.cast_ofNat_Int]
      try simp (disch := omega) only [x1, x2, rb_0, Bool.not_eq_false, pk_us, pk_un, va_up_self, va_up_ne, nI_add, pk_mul, nI_clamp, vp_inT, nI_ltI, nI_leI, nI_eqI, pk_sub, true_and, and_true]
      refine hR _ _ rz_nb_0 ?_
      rw [← hQ]
      refine ⟨_, _, false, [], rfl, rfl, i1.m rfl, a1.m rfl, [[]], 0, (fun q => by cases q), hw, by simp, rfl, Or.inl ⟨rfl, fun v hv => ?_⟩⟩
      obtain ⟨s, hs, -⟩ := hv
      have e : xd_st T1 T2 = [] := by
        unfold xd_st
        rw [if_neg]
        rintro ⟨q1, q2⟩
        first
          | (rw [(by assumption : T1.1.testBit 0 = false)] at q1; cases q1)
          | (rw [(by assumption : T2.1.testBit 0 = false)] at q2; cases q2)
      rw [e] at hs
      cases hs
set_option maxRecDepth 100000 in
set_option maxHeartbeats 400000 in
theorem c_Mod_spell {w : rz_w} {d : Nat} {G : rz_G} {a : Nat} {I : Nat → Int32} {A : Nat → Nat → Int32} {W : List (List Nat)} {k : Nat} {u : List Nat} (hw : xw_is I A W) (hu : W[k]? = some u) : rz_C w d 0 0 y_Mod_spell m_Mod_spell [.ref a, .int (nI k)] (re_put G a I A) (fun (r : Option Value) (G' : rz_G) => r = none ∧ ∃ I' A', G' = re_put G a I' A' ∧ fi [46] I I' ∧ fa [48] A A' ∧ I' 46 = nI u.length ∧ sg (A' 48) 0 u) := by
  generalize hQ : (fun (r : Option Value) (G' : rz_G) => r = none ∧ ∃ I' A', G' = re_put G a I' A' ∧ fi [46] I I' ∧ fa [48] A A' ∧ I' 46 = nI u.length ∧ sg (A' 48) 0 u) = Q
  obtain ⟨w1, w2, w3, w4⟩ := id hw
  have hlen := fun (j : Nat) (v : List Nat) (hv : W[j]? = some v) => (xw_len hw j j v (Nat.le_refl _) hv).1
  have hkl := (List.getElem?_eq_some_iff.mp hu).1
  have hul := hlen k u hu
  have l2 : ∀ (m j : Nat) (v : List Nat) (A1 : Nat → Nat → Int32), j ≤ m → W[j]? = some v → fa [48] A A1 → (∃ t, u = v ++ t) → (∀ i (hi : i < u.length), v.length ≤ i → A1 48 i = nI u[i]) → rz_T w d 0 0 m_Mod_spell 0 0 38 [some (.ref a), some (.int (nI k)), some (.int (nI v.length)), some (.int (nI j))] [] (re_put G a (upd I 46 (nI u.length)) A1) Q := by
    intro m
    induction m with
    | zero =>
      intro j v A1 hj hv ka ht hs
      have e : j = 0 := by omega
      subst e
      rw [w3] at hv
      cases hv
      have hz := nI_le0 (k := 0) (by decide)
      refine rz_blk' [(.iload_n 3, 1, 0, 0), (.ifCond .le 28, 3, 0, 0)] (by decide +kernel) (Nat.le_refl _) (Nat.le_refl _) (fun K R hK hR => ?_)
      simp only [↓rx_ifCond_le, ↓rx_iload_n3, ↓rx_nil, ↓ry_i1, ↓ry_li0s, ↓ry_li0z, rz_set, rz_nol, rz_clr, List.set_cons_zero, List.set_cons_succ, rz_tr, Nat.reduceAdd, Int.reduceAdd, Int.reduceToNat, Int.reduceSub, Int.reduceNeg, Int.cast_ofNat_Int]
      try simp (disch := omega) only [hz, pk_us, pk_un, va_up_self, va_up_ne, nI_add, pk_mul, nI_clamp, vp_inT, nI_ltI, nI_leI, nI_eqI, pk_sub, true_and, and_true]
      refine ⟨fun q1 => hK _ _ _ _ ?_, fun q1 => by first | exact absurd rfl q1 | exact absurd trivial q1⟩
      refine rz_blk' [(.return_, 1, 0, 0)] (by decide +kernel) (Nat.le_refl _) (Nat.le_refl _) (fun K R hK hR => ?_)
      simp only [↓rx_nil, ↓rx_return_, rz_set, rz_nol, rz_clr, List.set_cons_zero, List.set_cons_succ, rz_tr, Nat.reduceAdd, Int.reduceAdd, Int.reduceToNat, Int.reduceSub, Int.reduceNeg, Int.cast_ofNat_Int]
      try simp (disch := omega) only [hz, pk_us, pk_un, va_up_self, va_up_ne, nI_add, pk_mul, nI_clamp, vp_inT, nI_ltI, nI_leI, nI_eqI, pk_sub, true_and, and_true]
      refine hR _ _ (rz_nb_i (by decide)) ?_
      rw [← hQ]
      exact ⟨rfl, _, _, rfl, fi.rf.u rfl, ka, pk_us, fun i hi => by rw [Nat.zero_add]; exact hs i hi (Nat.zero_le _)⟩
    | succ m ih =>
      intro j v A1 hj hv ka ht hs
      have hjl := (List.getElem?_eq_some_iff.mp hv).1
      have hz := nI_le0 (k := j) (by omega)
      by_cases c : j = 0
      · subst c
        rw [w3] at hv
        cases hv
        refine rz_blk' [(.iload_n 3, 1, 0, 0), (.ifCond .le 28, 3, 0, 0)] (by decide +kernel) (Nat.le_refl _) (Nat.le_refl _) (fun K R hK hR => ?_)
        simp only [↓rx_ifCond_le, ↓rx_iload_n3, ↓rx_nil, ↓ry_i1, ↓ry_li0s, ↓ry_li0z, rz_set, rz_nol, rz_clr, List.set_cons_zero, List.set_cons_succ, rz_tr, Nat.reduceAdd, Int.reduceAdd, Int.reduceToNat, Int.reduceSub, Int.reduceNeg, Int.cast_ofNat_Int]
        try simp (disch := omega) only [hz, pk_us, pk_un, va_up_self, va_up_ne, nI_add, pk_mul, nI_clamp, vp_inT, nI_ltI, nI_leI, nI_eqI, pk_sub, true_and, and_true]
        refine ⟨fun q2 => hK _ _ _ _ ?_, fun q2 => by first | exact absurd rfl q2 | exact absurd trivial q2⟩
        refine rz_blk' [(.return_, 1, 0, 0)] (by decide +kernel) (Nat.le_refl _) (Nat.le_refl _) (fun K R hK hR => ?_)
        simp only [↓rx_nil, ↓rx_return_, rz_set, rz_nol, rz_clr, List.set_cons_zero, List.set_cons_succ, rz_tr, Nat.reduceAdd, Int.reduceAdd, Int.reduceToNat, Int.reduceSub, Int.reduceNeg, Int.cast_ofNat_Int]
        try simp (disch := omega) only [hz, pk_us, pk_un, va_up_self, va_up_ne, nI_add, pk_mul, nI_clamp, vp_inT, nI_ltI, nI_leI, nI_eqI, pk_sub, true_and, and_true]
        refine hR _ _ (rz_nb_i (by decide)) ?_
        rw [← hQ]
        exact ⟨rfl, _, _, rfl, fi.rf.u rfl, ka, pk_us, fun i hi => by rw [Nat.zero_add]; exact hs i hi (Nat.zero_le _)⟩
      · obtain ⟨b, x, v', y1, y2, y3, y4, y5, y6⟩ := w4 j (by omega) hjl
        rw [hv] at y6
        cases y6
        obtain ⟨t, ht⟩ := ht
        have e39 := ka 39 rfl
        have e40 := ka 40 rfl
        have hv'l := hlen b v' y5
        have hdec : nI (v' ++ [x]).length + (-1) = nI v'.length := by
          rw [List.length_append]
          show nI (v'.length + 1) + (-1) = nI v'.length
          rw [← nI_add]
          have : nI 1 = 1 := rfl
          rw [this]; grind
        have hvu : u[v'.length]? = some x := by rw [ht, List.append_assoc, List.getElem?_append_right (Nat.le_refl _)]; simp
        have hvl : v'.length < u.length := (List.getElem?_eq_some_iff.mp hvu).1
        refine rz_blk' [(.iload_n 3, 1, 0, 0), (.ifCond .le 28, 3, 0, 0)] (by decide +kernel) (Nat.le_refl _) (Nat.le_refl _) (fun K R hK hR => ?_)
        simp only [↓rx_ifCond_le, ↓rx_iload_n3, ↓rx_nil, ↓ry_i1, ↓ry_li0s, ↓ry_li0z, e39, e40, y3, y4, rz_set, rz_nol, rz_clr, List.set_cons_zero, List.set_cons_succ, rz_tr, Nat.reduceAdd, Int.reduceAdd, Int.reduceToNat, Int.reduceSub, Int.reduceNeg, Int.cast_ofNat_Int]
        try simp (disch := omega) only [e39, e40, y3, y4, hz, hdec, pk_us, pk_un, va_up_self, va_up_ne, nI_add, pk_mul, nI_clamp, vp_inT, nI_ltI, nI_leI, nI_eqI, pk_sub, true_and, and_true]
        refine ⟨fun q3 => absurd q3 c, fun q3 => hK _ _ _ _ ?_⟩
        refine rz_blk' [(.iinc 2 (-1), 3, 0, 0)] (by decide +kernel) (Nat.le_refl _) (Nat.le_refl _) (fun K R hK hR => ?_)
        simp only [rw_cm1, ↓rx_iinc, ↓rx_nil, ↓ry_li0s, ↓ry_li0z, e39, e40, y3, y4, rz_set, rz_nol, rz_clr, List.set_cons_zero, List.set_cons_succ, rz_tr, Nat.reduceAdd, Int.reduceAdd, Int.reduceToNat, Int.reduceSub, Int.reduceNeg, Int.cast_ofNat_Int]
        try simp (disch := omega) only [e39, e40, y3, y4, hz, hdec, pk_us, pk_un, va_up_self, va_up_ne, nI_add, pk_mul, nI_clamp, vp_inT, nI_ltI, nI_leI, nI_eqI, pk_sub, true_and, and_true]
        refine hK _ _ _ _ ?_
        refine rz_blk' [(.aload_n 0, 1, 0, 0), (.getfield 126, 3, 10, 48), (.iload_n 2, 1, 0, 0), (.aload_n 0, 1, 0, 0), (.getfield 114, 3, 10, 40), (.iload_n 3, 1, 0, 0), (.iaload, 1, 0, 0), (.iastore, 1, 0, 0)] (by decide +kernel) (Nat.le_refl _) (Nat.le_refl _) (fun K R hK hR => ?_)
        simp only [↓rx_aload_n0, ↓rx_getfield, ↓rx_iaload, ↓rx_iastore, ↓rx_iload_n2, ↓rx_iload_n3, ↓rx_nil, ↓ry_iau, ↓ry_li0s, ↓ry_li0z, ↓ry_lr0s, ↓ry_lr0z, ↓ry_obu, ↓ry_r1, ↓ry_ri, ↓ry_rii, true_and, re_a40, re_a48, ↓re_F40, ↓re_F48, ↓re_i40, ↓re_i48, ↓re_ob, e39, e40, y3, y4, rz_set, rz_nol, rz_clr, List.set_cons_zero, List.set_cons_succ, rz_tr, Nat.reduceAdd, Int.reduceAdd, Int.reduceToNat, Int.reduceSub, Int.reduceNeg, Int.cast_ofNat_Int]
        try simp (disch := omega) only [e39, e40, y3, y4, hz, hdec, pk_us, pk_un, va_up_self, va_up_ne, nI_add, pk_mul, nI_clamp, vp_inT, nI_ltI, nI_leI, nI_eqI, pk_sub, true_and, and_true]
        refine hK _ _ _ _ ?_
        refine rz_blk' [(.aload_n 0, 1, 0, 0), (.getfield 111, 3, 10, 39), (.iload_n 3, 1, 0, 0), (.iaload, 1, 0, 0), (.istore_n 3, 1, 0, 0)] (by decide +kernel) (Nat.le_refl _) (Nat.le_refl _) (fun K R hK hR => ?_)
        simp only [↓rx_aload_n0, ↓rx_getfield, ↓rx_iaload, ↓rx_iload_n3, ↓rx_istore_n3, ↓rx_nil, ↓ry_i1, ↓ry_iau, ↓ry_li0s, ↓ry_li0z, ↓ry_lr0s, ↓ry_lr0z, ↓ry_obu, ↓ry_r1, ↓ry_ri, true_and, re_a39, ↓re_F39, ↓re_i39, ↓re_ob, e39, e40, y3, y4, rz_set, rz_nol, rz_clr, List.set_cons_zero, List.set_cons_succ, rz_tr, Nat.reduceAdd, Int.reduceAdd, Int.reduceToNat, Int.reduceSub, Int.reduceNeg, Int.cast_ofNat_Int]
        try simp (disch := omega) only [e39, e40, y3, y4, hz, hdec, pk_us, pk_un, va_up_self, va_up_ne, nI_add, pk_mul, nI_clamp, vp_inT, nI_ltI, nI_leI, nI_eqI, pk_sub, true_and, and_true]
        refine hK _ _ _ _ ?_
        refine rz_blk' [(.goto (-26), 3, 0, 0)] (by decide +kernel) (Nat.le_refl _) (Nat.le_refl _) (fun K R hK hR => ?_)
        simp only [↓rx_goto, ↓rx_nil, e39, e40, y3, y4, rz_set, rz_nol, rz_clr, List.set_cons_zero, List.set_cons_succ, rz_tr, Nat.reduceAdd, Int.reduceAdd, Int.reduceToNat, Int.reduceSub, Int.reduceNeg, Int.cast_ofNat_Int]
        try simp (disch := omega) only [e39, e40, y3, y4, hz, hdec, pk_us, pk_un, va_up_self, va_up_ne, nI_add, pk_mul, nI_clamp, vp_inT, nI_ltI, nI_leI, nI_eqI, pk_sub, true_and, and_true]
        refine hK _ _ _ _ ?_
        refine ih b v' _ (by omega) y5 (ka.u rfl) ⟨[x] ++ t, by rw [← List.append_assoc]; exact ht⟩ (fun i hi h1 => ?_)
        rw [va_up_self]
        by_cases ci : i = v'.length
        · subst ci; rw [pk_us, (List.getElem?_eq_some_iff.mp hvu).2]
        · rw [pk_un ci]; exact hs i hi (by simp; omega)
  have l1 : ∀ (m j n : Nat) (v : List Nat) (z3 : Option Value), j ≤ m → W[j]? = some v → n + v.length = u.length → rz_T w d 0 0 m_Mod_spell 0 0 7 [some (.ref a), some (.int (nI k)), some (.int (nI j)), z3] [] (re_put G a (upd I 46 (nI n)) A) Q := by
    intro m
    induction m with
    | zero =>
      intro j n v z3 hj hv hn
      have e : j = 0 := by omega
      subst e
      rw [w3] at hv
      cases hv
      have hn : n = u.length := by simpa using hn
      subst hn
      have hz := nI_le0 (k := 0) (by decide)
      refine rz_blk' [(.iload_n 2, 1, 0, 0), (.ifCond .le 23, 3, 0, 0)] (by decide +kernel) (Nat.le_refl _) (Nat.le_refl _) (fun K R hK hR => ?_)
      simp only [↓rx_ifCond_le, ↓rx_iload_n2, ↓rx_nil, ↓ry_i1, ↓ry_li0s, ↓ry_li0z, rz_set, rz_nol, rz_clr, List.set_cons_zero, List.set_cons_succ, rz_tr, Nat.reduceAdd, Int.reduceAdd, Int.reduceToNat, Int.reduceSub, Int.reduceNeg, Int.cast_ofNat_Int]
      try simp (disch := omega) only [hz, pk_us, pk_un, va_up_self, va_up_ne, nI_add, pk_mul, nI_clamp, vp_inT, nI_ltI, nI_leI, nI_eqI, pk_sub, true_and, and_true]
      refine ⟨fun q4 => hK _ _ _ _ ?_, fun q4 => by first | exact absurd rfl q4 | exact absurd trivial q4⟩
      refine rz_blk' [(.aload_n 0, 1, 0, 0), (.getfield 309, 3, 10, 46), (.istore_n 2, 1, 0, 0)] (by decide +kernel) (Nat.le_refl _) (Nat.le_refl _) (fun K R hK hR => ?_)
      simp only [↓rx_aload_n0, ↓rx_getfield, ↓rx_istore_n2, ↓rx_nil, ↓ry_i1, ↓ry_lr0s, ↓ry_lr0z, ↓ry_obu, ↓ry_r1, ↓re_F46, ↓re_ob, rz_set, rz_nol, rz_clr, List.set_cons_zero, List.set_cons_succ, rz_tr, Nat.reduceAdd, Int.reduceAdd, Int.reduceToNat, Int.reduceSub, Int.reduceNeg, Int.cast_ofNat_Int]
      try simp (disch := omega) only [hz, pk_us, pk_un, va_up_self, va_up_ne, nI_add, pk_mul, nI_clamp, vp_inT, nI_ltI, nI_leI, nI_eqI, pk_sub, true_and, and_true]
      refine hK _ _ _ _ ?_
      refine rz_blk' [(.iload_n 1, 1, 0, 0), (.istore_n 3, 1, 0, 0)] (by decide +kernel) (Nat.le_refl _) (Nat.le_refl _) (fun K R hK hR => ?_)
      simp only [↓rx_iload_n1, ↓rx_istore_n3, ↓rx_nil, ↓ry_i1, ↓ry_li0s, ↓ry_li0z, rz_set, rz_nol, rz_clr, List.set_cons_zero, List.set_cons_succ, rz_tr, Nat.reduceAdd, Int.reduceAdd, Int.reduceToNat, Int.reduceSub, Int.reduceNeg, Int.cast_ofNat_Int]
      try simp (disch := omega) only [hz, pk_us, pk_un, va_up_self, va_up_ne, nI_add, pk_mul, nI_clamp, vp_inT, nI_ltI, nI_leI, nI_eqI, pk_sub, true_and, and_true]
      refine hK _ _ _ _ ?_
      exact l2 k k u A (Nat.le_refl _) hu fa.rf ⟨[], by simp⟩ (fun i hi h => absurd h (by omega))
    | succ m ih =>
      intro j n v z3 hj hv hn
      have hjl := (List.getElem?_eq_some_iff.mp hv).1
      have hz := nI_le0 (k := j) (by omega)
      by_cases c : j = 0
      · subst c
        rw [w3] at hv
        cases hv
        have hn : n = u.length := by simpa using hn
        subst hn
        refine rz_blk' [(.iload_n 2, 1, 0, 0), (.ifCond .le 23, 3, 0, 0)] (by decide +kernel) (Nat.le_refl _) (Nat.le_refl _) (fun K R hK hR => ?_)
        simp only [↓rx_ifCond_le, ↓rx_iload_n2, ↓rx_nil, ↓ry_i1, ↓ry_li0s, ↓ry_li0z, rz_set, rz_nol, rz_clr, List.set_cons_zero, List.set_cons_succ, rz_tr, Nat.reduceAdd, Int.reduceAdd, Int.reduceToNat, Int.reduceSub, Int.reduceNeg, Int.cast_ofNat_Int]
        try simp (disch := omega) only [hz, pk_us, pk_un, va_up_self, va_up_ne, nI_add, pk_mul, nI_clamp, vp_inT, nI_ltI, nI_leI, nI_eqI, pk_sub, true_and, and_true]
        refine ⟨fun q5 => hK _ _ _ _ ?_, fun q5 => by first | exact absurd rfl q5 | exact absurd trivial q5⟩
        refine rz_blk' [(.aload_n 0, 1, 0, 0), (.getfield 309, 3, 10, 46), (.istore_n 2, 1, 0, 0)] (by decide +kernel) (Nat.le_refl _) (Nat.le_refl _) (fun K R hK hR => ?_)
        simp only [↓rx_aload_n0, ↓rx_getfield, ↓rx_istore_n2, ↓rx_nil, ↓ry_i1, ↓ry_lr0s, ↓ry_lr0z, ↓ry_obu, ↓ry_r1, ↓re_F46, ↓re_ob, rz_set, rz_nol, rz_clr, List.set_cons_zero, List.set_cons_succ, rz_tr, Nat.reduceAdd, Int.reduceAdd, Int.reduceToNat, Int.reduceSub, Int.reduceNeg, Int.cast_ofNat_Int]
        try simp (disch := omega) only [hz, pk_us, pk_un, va_up_self, va_up_ne, nI_add, pk_mul, nI_clamp, vp_inT, nI_ltI, nI_leI, nI_eqI, pk_sub, true_and, and_true]
        refine hK _ _ _ _ ?_
        refine rz_blk' [(.iload_n 1, 1, 0, 0), (.istore_n 3, 1, 0, 0)] (by decide +kernel) (Nat.le_refl _) (Nat.le_refl _) (fun K R hK hR => ?_)
        simp only [↓rx_iload_n1, ↓rx_istore_n3, ↓rx_nil, ↓ry_i1, ↓ry_li0s, ↓ry_li0z, rz_set, rz_nol, rz_clr, List.set_cons_zero, List.set_cons_succ, rz_tr, Nat.reduceAdd, Int.reduceAdd, Int.reduceToNat, Int.reduceSub, Int.reduceNeg, Int.cast_ofNat_Int]
        try simp (disch := omega) only [hz, pk_us, pk_un, va_up_self, va_up_ne, nI_add, pk_mul, nI_clamp, vp_inT, nI_ltI, nI_leI, nI_eqI, pk_sub, true_and, and_true]
        refine hK _ _ _ _ ?_
        exact l2 k k u A (Nat.le_refl _) hu fa.rf ⟨[], by simp⟩ (fun i hi h => absurd h (by omega))
      · obtain ⟨b, x, v', y1, y2, y3, y4, y5, y6⟩ := w4 j (by omega) hjl
        rw [hv] at y6
        cases y6
        rw [List.length_append] at hn
        have hn : n + (v'.length + 1) = u.length := hn
        refine rz_blk' [(.iload_n 2, 1, 0, 0), (.ifCond .le 23, 3, 0, 0)] (by decide +kernel) (Nat.le_refl _) (Nat.le_refl _) (fun K R hK hR => ?_)
        simp only [↓rx_ifCond_le, ↓rx_iload_n2, ↓rx_nil, ↓ry_i1, ↓ry_li0s, ↓ry_li0z, y3, rz_set, rz_nol, rz_clr, List.set_cons_zero, List.set_cons_succ, rz_tr, Nat.reduceAdd, Int.reduceAdd, Int.reduceToNat, Int.reduceSub, Int.reduceNeg, Int.cast_ofNat_Int]
        try simp (disch := omega) only [y3, hz, pk_us, pk_un, va_up_self, va_up_ne, nI_add, pk_mul, nI_clamp, vp_inT, nI_ltI, nI_leI, nI_eqI, pk_sub, true_and, and_true]
        refine ⟨fun q6 => absurd q6 c, fun q6 => hK _ _ _ _ ?_⟩
        refine rz_blk' [(.aload_n 0, 1, 0, 0), (.dup, 1, 0, 0), (.getfield 309, 3, 10, 46), (.iconst 1, 1, 0, 0), (.iadd, 1, 0, 0), (.putfield 309, 3, 10, 46)] (by decide +kernel) (Nat.le_refl _) (Nat.le_refl _) (fun K R hK hR => ?_)
        simp only [List.length_cons, List.length_nil, Nat.reduceLT, rf_10_46, rw_c1, ↓rx_aload_n0, ↓rx_dup, ↓rx_getfield, ↓rx_iadd, ↓rx_iconst, ↓rx_nil, ↓rx_putfield, ↓ry_i2, ↓ry_lr0s, ↓ry_lr0z, ↓ry_obu, ↓ry_r1, ↓ry_v1i, ↓ry_v1r, ↓ry_vr, true_and, re_len, re_u46, ↓re_F46, ↓re_ob, y3, rz_set, rz_nol, rz_clr, List.set_cons_zero, List.set_cons_succ, rz_tr, Nat.reduceAdd, Int.reduceAdd, Int.reduceToNat, Int.reduceSub, Int.reduceNeg, Int.cast_ofNat_Int]
        try simp (disch := omega) only [y3, hz, pk_us, pk_un, va_up_self, va_up_ne, nI_add, pk_mul, nI_clamp, vp_inT, nI_ltI, nI_leI, nI_eqI, pk_sub, true_and, and_true]
        refine hK _ _ _ _ ?_
        refine rz_blk' [(.aload_n 0, 1, 0, 0), (.getfield 111, 3, 10, 39), (.iload_n 2, 1, 0, 0), (.iaload, 1, 0, 0), (.istore_n 2, 1, 0, 0)] (by decide +kernel) (Nat.le_refl _) (Nat.le_refl _) (fun K R hK hR => ?_)
        simp only [↓rx_aload_n0, ↓rx_getfield, ↓rx_iaload, ↓rx_iload_n2, ↓rx_istore_n2, ↓rx_nil, ↓ry_i1, ↓ry_iau, ↓ry_li0s, ↓ry_li0z, ↓ry_lr0s, ↓ry_lr0z, ↓ry_obu, ↓ry_r1, ↓ry_ri, true_and, re_a39, ↓re_F39, ↓re_i39, ↓re_ob, y3, rz_set, rz_nol, rz_clr, List.set_cons_zero, List.set_cons_succ, rz_tr, Nat.reduceAdd, Int.reduceAdd, Int.reduceToNat, Int.reduceSub, Int.reduceNeg, Int.cast_ofNat_Int]
        try simp (disch := omega) only [y3, hz, pk_us, pk_un, va_up_self, va_up_ne, nI_add, pk_mul, nI_clamp, vp_inT, nI_ltI, nI_leI, nI_eqI, pk_sub, true_and, and_true]
        refine hK _ _ _ _ ?_
        refine rz_blk' [(.goto (-21), 3, 0, 0)] (by decide +kernel) (Nat.le_refl _) (Nat.le_refl _) (fun K R hK hR => ?_)
        simp only [↓rx_goto, ↓rx_nil, y3, rz_set, rz_nol, rz_clr, List.set_cons_zero, List.set_cons_succ, rz_tr, Nat.reduceAdd, Int.reduceAdd, Int.reduceToNat, Int.reduceSub, Int.reduceNeg, Int.cast_ofNat_Int]
        try simp (disch := omega) only [y3, hz, pk_us, pk_un, va_up_self, va_up_ne, nI_add, pk_mul, nI_clamp, vp_inT, nI_ltI, nI_leI, nI_eqI, pk_sub, true_and, and_true]
        refine hK _ _ _ _ ?_
        have := ih b (n + 1) v' z3 (by omega) y5 (by omega)
        rwa [re_uu]
  refine rz_enter' [some (.ref a), some (.int (nI k)), none, none] (by decide +kernel) rfl rfl (Nat.le_of_ble_eq_true rfl) rfl ?_
  refine rz_blk' [(.aload_n 0, 1, 0, 0), (.iconst 0, 1, 0, 0), (.putfield 309, 3, 10, 46)] (by decide +kernel) (Nat.le_refl _) (Nat.le_refl _) (fun K R hK hR => ?_)
  simp only [List.length_cons, List.length_nil, Nat.reduceLT, rf_10_46, rw_c0, ↓rx_aload_n0, ↓rx_iconst, ↓rx_nil, ↓rx_putfield, ↓ry_lr0s, ↓ry_lr0z, ↓ry_obu, ↓ry_vr, true_and, re_len, re_u46, ↓re_ob, rz_set, rz_nol, rz_clr, List.set_cons_zero, List.set_cons_succ, rz_tr, Nat.reduceAdd, Int.reduceAdd, Int.reduceToNat, Int.reduceSub, Int.reduceNeg, Int.cast_ofNat_Int]
  try simp (disch := omega) only [pk_us, pk_un, va_up_self, va_up_ne, nI_add, pk_mul, nI_clamp, vp_inT, nI_ltI, nI_leI, nI_eqI, pk_sub, true_and, and_true]
  refine hK _ _ _ _ ?_
  refine rz_blk' [(.iload_n 1, 1, 0, 0), (.istore_n 2, 1, 0, 0)] (by decide +kernel) (Nat.le_refl _) (Nat.le_refl _) (fun K R hK hR => ?_)
  simp only [↓rx_iload_n1, ↓rx_istore_n2, ↓rx_nil, ↓ry_i1, ↓ry_li0s, ↓ry_li0z, rz_set, rz_nol, rz_clr, List.set_cons_zero, List.set_cons_succ, rz_tr, Nat.reduceAdd, Int.reduceAdd, Int.reduceToNat, Int.reduceSub, Int.reduceNeg, Int.cast_ofNat_Int]
  try simp (disch := omega) only [pk_us, pk_un, va_up_self, va_up_ne, nI_add, pk_mul, nI_clamp, vp_inT, nI_ltI, nI_leI, nI_eqI, pk_sub, true_and, and_true]
  refine hK _ _ _ _ ?_
  exact l1 k k 0 u _ (Nat.le_refl _) hu (Nat.zero_add _)
set_option maxRecDepth 100000 in
set_option maxHeartbeats 400000 in
theorem c_Mod_tellWord {w : rz_w} {d : Nat} {G : rz_G} {a : Nat} {I : Nat → Int32} {A : Nat → Nat → Int32} {u : List Nat} (h46 : I 46 = nI u.length) (h48 : sg (A 48) 0 u) (hl : u.length ≤ 4096) : rz_C w d 0 0 y_Mod_tellWord m_Mod_tellWord [.ref a] (re_put G a I A) (fun (r : Option Value) (G' : rz_G) => r = none ∧ ∃ I' A', G' = re_put G a I' A' ∧ fi [12] I I' ∧ fa [13] A A' ∧ re_r I' A' u) := by
  generalize hQ : (fun (r : Option Value) (G' : rz_G) => r = none ∧ ∃ I' A', G' = re_put G a I' A' ∧ fi [12] I I' ∧ fa [13] A A' ∧ re_r I' A' u) = Q
  have c1 : ∀ (B : Nat → Nat → Int32) , rz_T w d 0 0 m_Mod_tellWord 0 0 36 [some (.ref a), some (.int (nI (u.length)))] [] (re_put G a (upd I 12 (nI u.length)) (va_up B 13 (cp (B 13) (0) (B 48) (0) (u.length)))) Q → rz_T w d 0 0 m_Mod_tellWord 0 0 10 [some (.ref a), some (.int (nI 0))] [] (re_put G a (upd I 12 (nI u.length)) B) Q := by
    intro B   hx
    have lp : ∀ (cj cx : Nat), cx + cj = u.length → rz_T w d 0 0 m_Mod_tellWord 0 0 10 [some (.ref a), some (.int (nI cx))] [] (re_put G a (upd I 12 (nI u.length)) (va_up B 13 (cp (B 13) (0) (B 48) (0) cx))) Q := by
      intro cj
      induction cj with
      | zero =>
        intro cx hij
        have hi : cx = u.length := by omega
        subst hi
        refine rz_blk' [(.iload_n 1, 1, 0, 0), (.aload_n 0, 1, 0, 0), (.getfield 309, 3, 10, 46), (.if_icmp .ge 21, 3, 0, 0)] (by decide +kernel) (Nat.le_refl _) (Nat.le_refl _) (fun K R hK hR => ?_)
        simp only [↓rx_aload_n0, ↓rx_getfield, ↓rx_if_icmp_ge, ↓rx_iload_n1, ↓rx_nil, ↓ry_i2, ↓ry_li0s, ↓ry_li0z, ↓ry_lr0s, ↓ry_lr0z, ↓ry_obu, ↓ry_r1, ↓re_F46, ↓re_ob, h46, rz_set, rz_nol, rz_clr, List.set_cons_zero, List.set_cons_succ, rz_tr, Nat.reduceAdd, Int.reduceAdd, Int.reduceToNat, Int.reduceSub, Int.reduceNeg, Int.cast_ofNat_Int]
        try simp (disch := omega) only [h46, pk_us, pk_un, va_up_self, va_up_ne, nI_add, pk_mul, nI_clamp, vp_inT, nI_ltI, nI_leI, nI_eqI, pk_sub, true_and, and_true]
        refine ⟨fun q1 => hK _ _ _ _ ?_, fun q1 => by omega⟩
        exact hx
      | succ cj ih =>
        intro cx hij
        refine rz_blk' [(.iload_n 1, 1, 0, 0), (.aload_n 0, 1, 0, 0), (.getfield 309, 3, 10, 46), (.if_icmp .ge 21, 3, 0, 0)] (by decide +kernel) (Nat.le_refl _) (Nat.le_refl _) (fun K R hK hR => ?_)
        simp only [↓rx_aload_n0, ↓rx_getfield, ↓rx_if_icmp_ge, ↓rx_iload_n1, ↓rx_nil, ↓ry_i2, ↓ry_li0s, ↓ry_li0z, ↓ry_lr0s, ↓ry_lr0z, ↓ry_obu, ↓ry_r1, ↓re_F46, ↓re_ob, h46, rz_set, rz_nol, rz_clr, List.set_cons_zero, List.set_cons_succ, rz_tr, Nat.reduceAdd, Int.reduceAdd, Int.reduceToNat, Int.reduceSub, Int.reduceNeg, Int.cast_ofNat_Int]
        try simp (disch := omega) only [h46, pk_us, pk_un, va_up_self, va_up_ne, nI_add, pk_mul, nI_clamp, vp_inT, nI_ltI, nI_leI, nI_eqI, pk_sub, true_and, and_true]
        refine ⟨fun q2 => by omega, fun q2 => hK _ _ _ _ ?_⟩
        refine rz_blk' [(.aload_n 0, 1, 0, 0), (.getfield 43, 3, 10, 13), (.iload_n 1, 1, 0, 0), (.aload_n 0, 1, 0, 0), (.getfield 126, 3, 10, 48), (.iload_n 1, 1, 0, 0), (.iaload, 1, 0, 0), (.iastore, 1, 0, 0)] (by decide +kernel) (Nat.le_refl _) (Nat.le_refl _) (fun K R hK hR => ?_)
        simp only [↓rx_aload_n0, ↓rx_getfield, ↓rx_iaload, ↓rx_iastore, ↓rx_iload_n1, ↓rx_nil, ↓ry_iau, ↓ry_li0s, ↓ry_li0z, ↓ry_lr0s, ↓ry_lr0z, ↓ry_obu, ↓ry_r1, ↓ry_ri, ↓ry_rii, true_and, re_a13, re_a48, ↓re_F13, ↓re_F48, ↓re_i13, ↓re_i48, ↓re_ob, h46, rz_set, rz_nol, rz_clr, List.set_cons_zero, List.set_cons_succ, rz_tr, Nat.reduceAdd, Int.reduceAdd, Int.reduceToNat, Int.reduceSub, Int.reduceNeg, Int.cast_ofNat_Int]
        try simp (disch := omega) only [h46, pk_us, pk_un, va_up_self, va_up_ne, nI_add, pk_mul, nI_clamp, vp_inT, nI_ltI, nI_leI, nI_eqI, pk_sub, true_and, and_true]
        refine hK _ _ _ _ ?_
        refine rz_blk' [(.iinc 1 1, 3, 0, 0)] (by decide +kernel) (Nat.le_refl _) (Nat.le_refl _) (fun K R hK hR => ?_)
        simp only [rw_c1, ↓rx_iinc, ↓rx_nil, ↓ry_li0s, ↓ry_li0z, h46, rz_set, rz_nol, rz_clr, List.set_cons_zero, List.set_cons_succ, rz_tr, Nat.reduceAdd, Int.reduceAdd, Int.reduceToNat, Int.reduceSub, Int.reduceNeg, Int.cast_ofNat_Int]
        try simp (disch := omega) only [h46, pk_us, pk_un, va_up_self, va_up_ne, nI_add, pk_mul, nI_clamp, vp_inT, nI_ltI, nI_leI, nI_eqI, pk_sub, true_and, and_true]
        refine hK _ _ _ _ ?_
        refine rz_blk' [(.goto (-23), 3, 0, 0)] (by decide +kernel) (Nat.le_refl _) (Nat.le_refl _) (fun K R hK hR => ?_)
        simp only [↓rx_goto, ↓rx_nil, h46, rz_set, rz_nol, rz_clr, List.set_cons_zero, List.set_cons_succ, rz_tr, Nat.reduceAdd, Int.reduceAdd, Int.reduceToNat, Int.reduceSub, Int.reduceNeg, Int.cast_ofNat_Int]
        try simp (disch := omega) only [h46, pk_us, pk_un, va_up_self, va_up_ne, nI_add, pk_mul, nI_clamp, vp_inT, nI_ltI, nI_leI, nI_eqI, pk_sub, true_and, and_true]
        refine hK _ _ _ _ ?_
        have ih := ih (cx + 1) (by omega)
        rw [← cp_s] at ih
        simp only [Nat.zero_add] at ih
        rw [re_vv]
        exact ih
    have := lp (u.length) 0 (Nat.zero_add _)
    rw [cp_0, re_ve] at this
    exact this
  refine rz_enter' [some (.ref a), none] (by decide +kernel) rfl rfl (Nat.le_of_ble_eq_true rfl) rfl ?_
  refine rz_blk' [(.aload_n 0, 1, 0, 0), (.aload_n 0, 1, 0, 0), (.getfield 309, 3, 10, 46), (.putfield 246, 3, 10, 12)] (by decide +kernel) (Nat.le_refl _) (Nat.le_refl _) (fun K R hK hR => ?_)
  simp only [List.length_cons, List.length_nil, Nat.reduceLT, rf_10_12, ↓rx_aload_n0, ↓rx_getfield, ↓rx_nil, ↓rx_putfield, ↓ry_lr0s, ↓ry_lr0z, ↓ry_obu, ↓ry_r1, ↓ry_vr, true_and, re_len, re_u12, ↓re_F46, ↓re_ob, h46, rz_set, rz_nol, rz_clr, List.set_cons_zero, List.set_cons_succ, rz_tr, Nat.reduceAdd, Int.reduceAdd, Int.reduceToNat, Int.reduceSub, Int.reduceNeg, Int.cast_ofNat_Int]
  try simp (disch := omega) only [h46, pk_us, pk_un, va_up_self, va_up_ne, nI_add, pk_mul, nI_clamp, vp_inT, nI_ltI, nI_leI, nI_eqI, pk_sub, true_and, and_true]
  refine hK _ _ _ _ ?_
  refine rz_blk' [(.iconst 0, 1, 0, 0), (.istore_n 1, 1, 0, 0)] (by decide +kernel) (Nat.le_refl _) (Nat.le_refl _) (fun K R hK hR => ?_)
  simp only [rw_c0, ↓rx_iconst, ↓rx_istore_n1, ↓rx_nil, ↓ry_i1, h46, rz_set, rz_nol, rz_clr, List.set_cons_zero, List.set_cons_succ, rz_tr, Nat.reduceAdd, Int.reduceAdd, Int.reduceToNat, Int.reduceSub, Int.reduceNeg, Int.cast_ofNat_Int]
  try simp (disch := omega) only [h46, pk_us, pk_un, va_up_self, va_up_ne, nI_add, pk_mul, nI_clamp, vp_inT, nI_ltI, nI_leI, nI_eqI, pk_sub, true_and, and_true]
  refine hK _ _ _ _ ?_
  refine c1 A ?_
  refine rz_blk' [(.return_, 1, 0, 0)] (by decide +kernel) (Nat.le_refl _) (Nat.le_refl _) (fun K R hK hR => ?_)
  simp only [↓rx_nil, ↓rx_return_, h46, rz_set, rz_nol, rz_clr, List.set_cons_zero, List.set_cons_succ, rz_tr, Nat.reduceAdd, Int.reduceAdd, Int.reduceToNat, Int.reduceSub, Int.reduceNeg, Int.cast_ofNat_Int]
  try simp (disch := omega) only [h46, pk_us, pk_un, va_up_self, va_up_ne, nI_add, pk_mul, nI_clamp, vp_inT, nI_ltI, nI_leI, nI_eqI, pk_sub, true_and, and_true]
  refine hR _ _ (rz_nb_i (by decide)) ?_
  rw [← hQ]
  exact ⟨rfl, _, _, rfl, fi.rf.u rfl, fa.rf.u rfl, pk_us, by rw [va_up_self]; exact sg_cp h48 (Nat.le_refl _), hl⟩
set_option maxRecDepth 100000 in
set_option maxHeartbeats 4000000 in
theorem c_Mod_functionOf {w : rz_w} {d : Nat} {G : rz_G} {a : Nat} {I : Nat → Int32} {A : Nat → Nat → Int32} {m : mv_T} {k : Nat} (hk : k < 6) (hm : re_m A k m) : rz_C w (d + 5) 0 0 y_Mod_functionOf m_Mod_functionOf [.ref a, .int (nI k)] (re_put G a I A) (fun (r : Option Value) (G' : rz_G) => ∃ I' A' b u, r = some (.int (rz_b (!b))) ∧ G' = re_put G a I' A' ∧ kp I A I' A' ∧ fi [26, 27, 30, 38, 41] I I' ∧ re_t A' 0 (tk m) ∧ fa [14, 15, 16, 17, 18, 19, 20, 21, 22, 23, 24, 25, 28, 29, 31, 32, 33, 34, 35, 36, 37, 39, 40] A A' ∧ xf_is (tk m) (tk m) (xd_st (tk m) (tk m)) I' A' b u) := by
  generalize hQ : (fun (r : Option Value) (G' : rz_G) => ∃ I' A' b u, r = some (.int (rz_b (!b))) ∧ G' = re_put G a I' A' ∧ kp I A I' A' ∧ fi [26, 27, 30, 38, 41] I I' ∧ re_t A' 0 (tk m) ∧ fa [14, 15, 16, 17, 18, 19, 20, 21, 22, 23, 24, 25, 28, 29, 31, 32, 33, 34, 35, 36, 37, 39, 40] A A' ∧ xf_is (tk m) (tk m) (xd_st (tk m) (tk m)) I' A' b u) = Q
  have htw := tk_tw (re_m_wf hm)
  have hcl := c_Mod_take (w := w) (d := d + 2) (G := G) (a := a) (I := I) (A := A) (k := k) (hh := 0) hk (by decide) hm
  generalize hT : tk m = T at *
  refine rz_enter' [some (.ref a), some (.int (nI k))] (by decide +kernel) rfl rfl (Nat.le_of_ble_eq_true rfl) rfl ?_
  refine rz_blk' [(.aload_n 0, 1, 0, 0), (.iload_n 1, 1, 0, 0), (.iconst 0, 1, 0, 0)] (by decide +kernel) (Nat.le_refl _) (Nat.le_refl _) (fun K R hK hR => ?_)
  simp only [rw_c0, ↓rx_aload_n0, ↓rx_iconst, ↓rx_iload_n1, ↓rx_nil, ↓ry_li0s, ↓ry_li0z, ↓ry_lr0s, ↓ry_lr0z, rz_set, rz_nol, rz_clr, List.set_cons_zero, List.set_cons_succ, rz_tr, Nat.reduceAdd, Int.reduceAdd, Int.reduceToNat, Int.reduceSub, Int.reduceNeg, Int.cast_ofNat_Int]
  try simp (disch := omega) only [rb_0, pk_us, pk_un, va_up_self, va_up_ne, nI_add, pk_mul, nI_clamp, vp_inT, nI_ltI, nI_leI, nI_eqI, pk_sub, true_and, and_true]
  refine hK _ _ _ _ ?_
  refine rz_cV (As := [.int (nI k), .int (nI 0)]) (b := a) (S := []) l_Mod_235 (by decide +kernel) rfl re_at0 rfl (Nat.le_of_ble_eq_true rfl) (Nat.le_refl _) (Nat.le_refl _) (hcl) (fun r G' hr => ?_)
  obtain ⟨rfl, A1, rfl, hft, hre⟩ := hr
  simp only [Option.toList, List.nil_append]
  have hkp0 : kp I A I A1 := kp.rf.ft hft
  have hds := c_Mod_differsFromStart (w := w) (d := d) (G := G) (a := a) (I := I) (A := A1) (g := 0) (hh := 0) (by decide) (by decide) hre hre htw htw
  refine rz_blk' [(.aload_n 0, 1, 0, 0), (.iconst 0, 1, 0, 0), (.iconst 0, 1, 0, 0)] (by decide +kernel) (Nat.le_refl _) (Nat.le_refl _) (fun K R hK hR => ?_)
  simp only [rw_c0, ↓rx_aload_n0, ↓rx_iconst, ↓rx_nil, ↓ry_lr0s, ↓ry_lr0z, rz_set, rz_nol, rz_clr, List.set_cons_zero, List.set_cons_succ, rz_tr, Nat.reduceAdd, Int.reduceAdd, Int.reduceToNat, Int.reduceSub, Int.reduceNeg, Int.cast_ofNat_Int]
  try simp (disch := omega) only [rb_0, pk_us, pk_un, va_up_self, va_up_ne, nI_add, pk_mul, nI_clamp, vp_inT, nI_ltI, nI_leI, nI_eqI, pk_sub, true_and, and_true]
  refine hK _ _ _ _ ?_
  refine rz_cV (As := [.int (nI 0), .int (nI 0)]) (b := a) (S := []) l_Mod_312 (by decide +kernel) rfl re_at0 rfl (Nat.le_of_ble_eq_true rfl) (Nat.le_refl _) (Nat.le_refl _) (hds) (fun r G' hr => ?_)
  obtain ⟨I2, A2, b, u, rfl, rfl, i2, a2, hx⟩ := hr
  simp only [Option.toList, List.cons_append, List.nil_append]
  refine rz_blk' [(.ifCond .ne 7, 3, 0, 0)] (by decide +kernel) (Nat.le_refl _) (Nat.le_refl _) (fun K R hK hR => ?_)
  simp only [↓rx_ifCond_ne, ↓rx_nil, ↓ry_i1, rz_set, rz_nol, rz_clr, List.set_cons_zero, List.set_cons_succ, rz_tr, Nat.reduceAdd, Int.reduceAdd, Int.reduceToNat, Int.reduceSub, Int.reduceNeg, Int.cast_ofNat_Int]
  try simp (disch := omega) only [rb_0, pk_us, pk_un, va_up_self, va_up_ne, nI_add, pk_mul, nI_clamp, vp_inT, nI_ltI, nI_leI, nI_eqI, pk_sub, true_and, and_true]
  refine ⟨fun q1 => hK _ _ _ _ ?_, fun q1 => hK _ _ _ _ ?_⟩
  · -- 12 taken
    refine rz_blk' [(.iconst 0, 1, 0, 0), (.ireturn, 1, 0, 0)] (by decide +kernel) (Nat.le_refl _) (Nat.le_refl _) (fun K R hK hR => ?_)
    simp only [rw_c0, ↓rx_iconst, ↓rx_ireturn, ↓rx_nil, rz_set, rz_nol, rz_clr, List.set_cons_zero, List.set_cons_succ, rz_tr, Nat.reduceAdd, Int.reduceAdd, Int.reduceToNat, Int.reduceSub, Int.reduceNeg, Int.cast_ofNat_Int]
    try simp (disch := omega) only [rb_0, pk_us, pk_un, va_up_self, va_up_ne, nI_add, pk_mul, nI_clamp, vp_inT, nI_ltI, nI_leI, nI_eqI, pk_sub, true_and, and_true]
    refine hR _ _ (by first | exact rz_nb_1 | exact rz_nb_0) ?_
    rw [← hQ]
    refine ⟨I2, A2, b, u, ?_, rfl, (hkp0.i i2 rfl).a a2 rfl, i2, re_t_fa hre a2 rfl, (ft_fa hft).t' a2 rfl rfl, hx⟩
    · first
        | (rw [(by assumption : b = false)]; rfl)
        | (rw [show b = true by simpa using q1]; rfl)
  · -- 12 not taken
    refine rz_blk' [(.iconst 1, 1, 0, 0), (.goto 4, 3, 0, 0)] (by decide +kernel) (Nat.le_refl _) (Nat.le_refl _) (fun K R hK hR => ?_)
    simp only [rw_c1, ↓rx_goto, ↓rx_iconst, ↓rx_nil, rz_set, rz_nol, rz_clr, List.set_cons_zero, List.set_cons_succ, rz_tr, Nat.reduceAdd, Int.reduceAdd, Int.reduceToNat, Int.reduceSub, Int.reduceNeg, Int.cast_ofNat_Int]
    try simp (disch := omega) only [rb_0, pk_us, pk_un, va_up_self, va_up_ne, nI_add, pk_mul, nI_clamp, vp_inT, nI_ltI, nI_leI, nI_eqI, pk_sub, true_and, and_true]
    refine hK _ _ _ _ ?_
    refine rz_blk' [(.ireturn, 1, 0, 0)] (by decide +kernel) (Nat.le_refl _) (Nat.le_refl _) (fun K R hK hR => ?_)
    simp only [↓rx_ireturn, ↓rx_nil, rz_set, rz_nol, rz_clr, List.set_cons_zero, List.set_cons_succ, rz_tr, Nat.reduceAdd, Int.reduceAdd, Int.reduceToNat, Int.reduceSub, Int.reduceNeg, Int.cast_ofNat_Int]
    try simp (disch := omega) only [rb_0, pk_us, pk_un, va_up_self, va_up_ne, nI_add, pk_mul, nI_clamp, vp_inT, nI_ltI, nI_leI, nI_eqI, pk_sub, true_and, and_true]
    refine hR _ _ (by first | exact rz_nb_1 | exact rz_nb_0) ?_
    rw [← hQ]
    refine ⟨I2, A2, b, u, ?_, rfl, (hkp0.i i2 rfl).a a2 rfl, i2, re_t_fa hre a2 rfl, (ft_fa hft).t' a2 rfl rfl, hx⟩
    · first
        | (rw [(by assumption : b = false)]; rfl)
        | (rw [show b = true by simpa using q1]; rfl)
set_option maxRecDepth 100000 in
set_option maxHeartbeats 4000000 in
theorem c_Mod_isFunction {w : rz_w} {d : Nat} {G : rz_G} {a : Nat} {I : Nat → Int32} {A : Nat → Nat → Int32} {V : dk_V} (h : rf I A V) (x : Int32) : rz_C w (d + 6) 0 0 y_Mod_isFunction m_Mod_isFunction [.ref a, .int x] (re_put G a I A) (rv G a V (fun r V' => ∃ k b u, k < 6 ∧ x = nI k ∧ xm_is (tk (V.1 k)) (tk (V.1 k)) (xd_st (tk (V.1 k)) (tk (V.1 k))) b u ∧ (∀ y ∈ u, y < 3) ∧ r = some (.int (rz_b (!b))) ∧ V' = dk_ur V (if b then u else [])) (fun c => c = 1 ∧ dk_no x)) := by
  generalize hQ : (rv G a V (fun r V' => ∃ k b u, k < 6 ∧ x = nI k ∧ xm_is (tk (V.1 k)) (tk (V.1 k)) (xd_st (tk (V.1 k)) (tk (V.1 k))) b u ∧ (∀ y ∈ u, y < 3) ∧ r = some (.int (rz_b (!b))) ∧ V' = dk_ur V (if b then u else [])) (fun c => c = 1 ∧ dk_no x)) = Q
  refine rz_enter' [some (.ref a), some (.int x), none] (by decide +kernel) rfl rfl (Nat.le_of_ble_eq_true rfl) rfl ?_
  refine rz_blk' [(.aload_n 0, 1, 0, 0), (.iload_n 1, 1, 0, 0)] (by decide +kernel) (Nat.le_refl _) (Nat.le_refl _) (fun K R hK hR => ?_)
  simp only [↓rx_aload_n0, ↓rx_iload_n1, ↓rx_nil, ↓ry_li0s, ↓ry_li0z, ↓ry_lr0s, ↓ry_lr0z, rz_set, rz_nol, rz_clr, List.set_cons_zero, List.set_cons_succ, rz_tr, Nat.reduceAdd, Int.reduceAdd, Int.reduceToNat, Int.reduceSub, Int.reduceNeg, Int.cast_ofNat_Int]
  try simp (disch := omega) only [pk_us, pk_un, va_up_self, va_up_ne, nI_add, pk_mul, nI_clamp, vp_inT, nI_ltI, nI_leI, nI_eqI, pk_sub, true_and, and_true]
  refine hK _ _ _ _ ?_
  refine rz_cV (As := [.int x]) (b := a) (S := []) l_Mod_214 (by decide +kernel) rfl re_at0 rfl (Nat.le_of_ble_eq_true rfl) (Nat.le_refl _) (Nat.le_refl _) (c_Mod_isMachine _) (fun r G' hr => ?_)
  rcases hr with ⟨k, hk, rfl, rfl, hg⟩ | ⟨hno, rfl, hg⟩
  rotate_left
  · subst hg
    simp only [Option.toList, List.cons_append, List.nil_append]
    refine rz_blk' [(.ifCond .ne 5, 3, 0, 0)] (by decide +kernel) (Nat.le_refl _) (Nat.le_refl _) (fun K R hK hR => ?_)
    simp only [↓rx_ifCond_ne, ↓rx_nil, ↓ry_i1, rz_set, rz_nol, rz_clr, List.set_cons_zero, List.set_cons_succ, rz_tr, Nat.reduceAdd, Int.reduceAdd, Int.reduceToNat, Int.reduceSub, Int.reduceNeg, Int.cast_ofNat_Int]
    try simp (disch := omega) only [pk_us, pk_un, va_up_self, va_up_ne, nI_add, pk_mul, nI_clamp, vp_inT, nI_ltI, nI_leI, nI_eqI, pk_sub, true_and, and_true]
    refine ⟨fun q1 => absurd rfl q1, fun q1 => hK _ _ _ _ ?_⟩
    refine rz_blk' [(.iconst 0, 1, 0, 0), (.ireturn, 1, 0, 0)] (by decide +kernel) (Nat.le_refl _) (Nat.le_refl _) (fun K R hK hR => ?_)
    simp only [rw_c0, ↓rx_iconst, ↓rx_ireturn, ↓rx_nil, rz_set, rz_nol, rz_clr, List.set_cons_zero, List.set_cons_succ, rz_tr, Nat.reduceAdd, Int.reduceAdd, Int.reduceToNat, Int.reduceSub, Int.reduceNeg, Int.cast_ofNat_Int]
    try simp (disch := omega) only [pk_us, pk_un, va_up_self, va_up_ne, nI_add, pk_mul, nI_clamp, vp_inT, nI_ltI, nI_leI, nI_eqI, pk_sub, true_and, and_true]
    exact hR _ _ rz_nb_0 (by rw [← hQ]; exact rv_e h 1 (by decide) (by decide) ⟨rfl, hno⟩)
  subst hg
  simp only [Option.toList, List.cons_append, List.nil_append]
  have hnk : ¬ dk_no (nI k) := fun q => q k hk rfl
  have hm := h.1 k hk
  obtain ⟨m1, m2, m3, m4, m5, m6, m7, m8, m9, m10, m11⟩ := id hm
  have hfo := c_Mod_functionOf (w := w) (d := d) (G := G) (a := a) (I := upd I 0 (nI 0)) (A := A) hk hm
  have key : ∀ (b : Bool) (u v : List Nat) (I1 : Nat → Int32) (A1 : Nat → Nat → Int32), I1 0 = nI 0 → (∃ n, n ≤ 4100 ∧ I1 46 = nI n) → (∀ j, 67 ≤ j → j < 70 → I1 j = I j) → (∀ j, j < 13 → A1 j = A j) → (∀ j, 70 ≤ j → j < 76 → A1 j = A j) → re_r I1 A1 v → rf I1 A1 (dk_ur V v) := by
    intro b u v I1 A1 h0 ⟨n, hn, h46⟩ hi ha hb hr
    exact ⟨fun j hj => re_m_keep (h.1 j hj) (fun f x ho => by rw [ha f (by unfold re_own at ho; omega)]), hr, re_w_46 h.2.2 hn h46 hi hb⟩
  refine rz_blk' [(.ifCond .ne 5, 3, 0, 0)] (by decide +kernel) (Nat.le_refl _) (Nat.le_refl _) (fun K R hK hR => ?_)
  simp only [↓rx_ifCond_ne, ↓rx_nil, ↓ry_i1, rz_set, rz_nol, rz_clr, List.set_cons_zero, List.set_cons_succ, rz_tr, Nat.reduceAdd, Int.reduceAdd, Int.reduceToNat, Int.reduceSub, Int.reduceNeg, Int.cast_ofNat_Int]
  try simp (disch := omega) only [rb_0, Bool.not_eq_true, Bool.not_eq_false, pk_us, pk_un, va_up_self, va_up_ne, nI_add, pk_mul, nI_clamp, vp_inT, nI_ltI, nI_leI, nI_eqI, pk_sub, true_and, and_true]
  refine ⟨fun q2 => hK _ _ _ _ ?_, fun q2 => absurd q2 (by decide)⟩
  refine rz_blk' [(.aload_n 0, 1, 0, 0), (.iload_n 1, 1, 0, 0)] (by decide +kernel) (Nat.le_refl _) (Nat.le_refl _) (fun K R hK hR => ?_)
  simp only [↓rx_aload_n0, ↓rx_iload_n1, ↓rx_nil, ↓ry_li0s, ↓ry_li0z, ↓ry_lr0s, ↓ry_lr0z, rz_set, rz_nol, rz_clr, List.set_cons_zero, List.set_cons_succ, rz_tr, Nat.reduceAdd, Int.reduceAdd, Int.reduceToNat, Int.reduceSub, Int.reduceNeg, Int.cast_ofNat_Int]
  try simp (disch := omega) only [rb_0, Bool.not_eq_true, Bool.not_eq_false, pk_us, pk_un, va_up_self, va_up_ne, nI_add, pk_mul, nI_clamp, vp_inT, nI_ltI, nI_leI, nI_eqI, pk_sub, true_and, and_true]
  refine hK _ _ _ _ ?_
  refine rz_cV (As := [.int (nI k)]) (b := a) (S := []) l_Mod_315 (by decide +kernel) rfl re_at0 rfl (Nat.le_of_ble_eq_true rfl) (Nat.le_refl _) (Nat.le_refl _) (hfo) (fun r G' hr => ?_)
  obtain ⟨I2, A2, b, u, rfl, rfl, hkp, i2, -, -, W, kk, z1, z2, z3, z4, z5⟩ := hr
  simp only [Option.toList, List.cons_append, List.nil_append]
  have hl := xw_len z2 kk kk u (Nat.le_refl _) z4
  have hkl := (List.getElem?_eq_some_iff.mp z4).1
  refine rz_blk' [(.istore_n 2, 1, 0, 0)] (by decide +kernel) (Nat.le_refl _) (Nat.le_refl _) (fun K R hK hR => ?_)
  simp only [↓rx_istore_n2, ↓rx_nil, ↓ry_i1, rz_set, rz_nol, rz_clr, List.set_cons_zero, List.set_cons_succ, rz_tr, Nat.reduceAdd, Int.reduceAdd, Int.reduceToNat, Int.reduceSub, Int.reduceNeg, Int.cast_ofNat_Int]
  try simp (disch := omega) only [rb_0, Bool.not_eq_true, Bool.not_eq_false, pk_us, pk_un, va_up_self, va_up_ne, nI_add, pk_mul, nI_clamp, vp_inT, nI_ltI, nI_leI, nI_eqI, pk_sub, true_and, and_true]
  refine hK _ _ _ _ ?_
  refine rz_blk' [(.aload_n 0, 1, 0, 0), (.iconst 0, 1, 0, 0), (.putfield 309, 3, 10, 46)] (by decide +kernel) (Nat.le_refl _) (Nat.le_refl _) (fun K R hK hR => ?_)
  simp only [List.length_cons, List.length_nil, Nat.reduceLT, rf_10_46, rw_c0, ↓rx_aload_n0, ↓rx_iconst, ↓rx_nil, ↓rx_putfield, ↓ry_lr0s, ↓ry_lr0z, ↓ry_obu, ↓ry_vr, true_and, re_len, re_u46, ↓re_ob, rz_set, rz_nol, rz_clr, List.set_cons_zero, List.set_cons_succ, rz_tr, Nat.reduceAdd, Int.reduceAdd, Int.reduceToNat, Int.reduceSub, Int.reduceNeg, Int.cast_ofNat_Int]
  try simp (disch := omega) only [rb_0, Bool.not_eq_true, Bool.not_eq_false, pk_us, pk_un, va_up_self, va_up_ne, nI_add, pk_mul, nI_clamp, vp_inT, nI_ltI, nI_leI, nI_eqI, pk_sub, true_and, and_true]
  refine hK _ _ _ _ ?_
  refine rz_blk' [(.iload_n 2, 1, 0, 0), (.ifCond .ne 11, 3, 0, 0)] (by decide +kernel) (Nat.le_refl _) (Nat.le_refl _) (fun K R hK hR => ?_)
  simp only [↓rx_ifCond_ne, ↓rx_iload_n2, ↓rx_nil, ↓ry_i1, ↓ry_li0s, ↓ry_li0z, rz_set, rz_nol, rz_clr, List.set_cons_zero, List.set_cons_succ, rz_tr, Nat.reduceAdd, Int.reduceAdd, Int.reduceToNat, Int.reduceSub, Int.reduceNeg, Int.cast_ofNat_Int]
  try simp (disch := omega) only [rb_0, Bool.not_eq_true, Bool.not_eq_false, pk_us, pk_un, va_up_self, va_up_ne, nI_add, pk_mul, nI_clamp, vp_inT, nI_ltI, nI_leI, nI_eqI, pk_sub, true_and, and_true]
  refine ⟨fun q3 => hK _ _ _ _ ?_, fun q3 => hK _ _ _ _ ?_⟩
  · -- 22 taken
    refine rz_blk' [(.aload_n 0, 1, 0, 0)] (by decide +kernel) (Nat.le_refl _) (Nat.le_refl _) (fun K R hK hR => ?_)
    simp only [↓rx_aload_n0, ↓rx_nil, ↓ry_lr0s, ↓ry_lr0z, rz_set, rz_nol, rz_clr, List.set_cons_zero, List.set_cons_succ, rz_tr, Nat.reduceAdd, Int.reduceAdd, Int.reduceToNat, Int.reduceSub, Int.reduceNeg, Int.cast_ofNat_Int]
    try simp (disch := omega) only [rb_0, Bool.not_eq_true, Bool.not_eq_false, pk_us, pk_un, va_up_self, va_up_ne, nI_add, pk_mul, nI_clamp, vp_inT, nI_ltI, nI_leI, nI_eqI, pk_sub, true_and, and_true]
    refine hK _ _ _ _ ?_
    have hb : b = false := by simpa using q3
    subst hb
    have htl := c_Mod_tellWord (w := w) (d := d + 5) (G := G) (a := a) (I := upd I2 46 (nI 0)) (A := A2) (u := []) pk_us sg_nil (by simp)
    refine rz_cV (As := []) (b := a) (S := []) l_Mod_321 (by decide +kernel) rfl re_at0 rfl (Nat.le_of_ble_eq_true rfl) (Nat.le_refl _) (Nat.le_refl _) (htl) (fun r G' hr => ?_)
    obtain ⟨rfl, I4, A4, rfl, i4, a4, y3⟩ := hr
    simp only [Option.toList, List.nil_append]
    refine rz_blk' [(.iload_n 2, 1, 0, 0), (.ireturn, 1, 0, 0)] (by decide +kernel) (Nat.le_refl _) (Nat.le_refl _) (fun K R hK hR => ?_)
    simp only [↓rx_iload_n2, ↓rx_ireturn, ↓rx_nil, ↓ry_li0s, ↓ry_li0z, rz_set, rz_nol, rz_clr, List.set_cons_zero, List.set_cons_succ, rz_tr, Nat.reduceAdd, Int.reduceAdd, Int.reduceToNat, Int.reduceSub, Int.reduceNeg, Int.cast_ofNat_Int]
    try simp (disch := omega) only [rb_0, Bool.not_eq_true, Bool.not_eq_false, pk_us, pk_un, va_up_self, va_up_ne, nI_add, pk_mul, nI_clamp, vp_inT, nI_ltI, nI_leI, nI_eqI, pk_sub, true_and, and_true]
    refine hR _ _ rz_b_nb ?_
    rw [← hQ]
    first
      | (refine rv_f ?_ (key true u u I4 A4 ?_ ?_ (fun j h1 h2 => ?_) (fun j hj => ?_) (fun j h1 h2 => ?_) y3) ⟨k, true, u, hk, rfl, z5, hl.2, rfl, rfl⟩
         · rw [i4 0 rfl, i3 0 rfl, pk_un (by decide), i2 0 rfl, pk_us]
         · rw [i4 0 rfl, i3 0 rfl, pk_un (by decide), i2 0 rfl, pk_us]
         · exact ⟨u.length, by omega, by rw [i4 46 rfl]; exact y1⟩
         · have e4 := fun (q : [12].contains j = false) => i4 j q
           have e3 := fun (q : [46].contains j = false) => i3 j q
           rw [e4 (by simp; omega), e3 (by simp; omega), pk_un (by omega)]
           rw [hkp.1.2 j (by omega) (by omega), pk_un (by omega)]
         · rw [a4 j (by simp; omega), a3 j (by simp; omega)]; exact hkp.2.1 j (by omega)
         · rw [a4 j (by simp; omega), a3 j (by simp; omega)]; exact hkp.2.2 j h1 h2)
      | (refine rv_f ?_ (key false [] [] I4 A4 ?_ ?_ (fun j h1 h2 => ?_) (fun j hj => ?_) (fun j h1 h2 => ?_) y3) ⟨k, false, u, hk, rfl, z5, hl.2, rfl, rfl⟩
         · rw [i4 0 rfl, pk_un (by decide), i2 0 rfl, pk_us]
         · rw [i4 0 rfl, pk_un (by decide), i2 0 rfl, pk_us]
         · exact ⟨0, by omega, by rw [i4 46 rfl]; exact pk_us⟩
         · have e4 := fun (q : [12].contains j = false) => i4 j q
           rw [e4 (by simp; omega), pk_un (by omega)]
           rw [hkp.1.2 j (by omega) (by omega), pk_un (by omega)]
         · rw [a4 j (by simp; omega)]; exact hkp.2.1 j (by omega)
         · rw [a4 j (by simp; omega)]; exact hkp.2.2 j h1 h2)
  · -- 22 not taken
    have hb : b = true := by simpa using q3
    subst hb
    have z1 := z1 rfl
    refine rz_blk' [(.aload_n 0, 1, 0, 0), (.aload_n 0, 1, 0, 0), (.getfield 293, 3, 10, 41)] (by decide +kernel) (Nat.le_refl _) (Nat.le_refl _) (fun K R hK hR => ?_)
    simp only [↓rx_aload_n0, ↓rx_getfield, ↓rx_nil, ↓ry_lr0s, ↓ry_lr0z, ↓ry_obu, ↓ry_r1, ↓re_F41, ↓re_ob, z1, rz_set, rz_nol, rz_clr, List.set_cons_zero, List.set_cons_succ, rz_tr, Nat.reduceAdd, Int.reduceAdd, Int.reduceToNat, Int.reduceSub, Int.reduceNeg, Int.cast_ofNat_Int]
    try simp (disch := omega) only [z1, rb_0, Bool.not_eq_true, Bool.not_eq_false, pk_us, pk_un, va_up_self, va_up_ne, nI_add, pk_mul, nI_clamp, vp_inT, nI_ltI, nI_leI, nI_eqI, pk_sub, true_and, and_true]
    refine hK _ _ _ _ ?_
    have hsp := c_Mod_spell (w := w) (d := d + 5) (G := G) (a := a) (I := upd I2 46 (nI 0)) (A := A2) (xw_keep z2 (pk_un (by decide)) rfl rfl) z4
    refine rz_cV (As := [.int (nI kk)]) (b := a) (S := []) l_Mod_318 (by decide +kernel) rfl re_at0 rfl (Nat.le_of_ble_eq_true rfl) (Nat.le_refl _) (Nat.le_refl _) (hsp) (fun r G' hr => ?_)
    obtain ⟨rfl, I3, A3, rfl, i3, a3, y1, y2⟩ := hr
    simp only [Option.toList, List.nil_append]
    have htl := c_Mod_tellWord (w := w) (d := d + 5) (G := G) (a := a) y1 y2 (by omega)
    refine rz_blk' [(.aload_n 0, 1, 0, 0)] (by decide +kernel) (Nat.le_refl _) (Nat.le_refl _) (fun K R hK hR => ?_)
    simp only [↓rx_aload_n0, ↓rx_nil, ↓ry_lr0s, ↓ry_lr0z, rz_set, rz_nol, rz_clr, List.set_cons_zero, List.set_cons_succ, rz_tr, Nat.reduceAdd, Int.reduceAdd, Int.reduceToNat, Int.reduceSub, Int.reduceNeg, Int.cast_ofNat_Int]
    try simp (disch := omega) only [rb_0, Bool.not_eq_true, Bool.not_eq_false, pk_us, pk_un, va_up_self, va_up_ne, nI_add, pk_mul, nI_clamp, vp_inT, nI_ltI, nI_leI, nI_eqI, pk_sub, true_and, and_true]
    refine hK _ _ _ _ ?_
    refine rz_cV (As := []) (b := a) (S := []) l_Mod_321 (by decide +kernel) rfl re_at0 rfl (Nat.le_of_ble_eq_true rfl) (Nat.le_refl _) (Nat.le_refl _) (htl) (fun r G' hr => ?_)
    obtain ⟨rfl, I4, A4, rfl, i4, a4, y3⟩ := hr
    simp only [Option.toList, List.nil_append]
    refine rz_blk' [(.iload_n 2, 1, 0, 0), (.ireturn, 1, 0, 0)] (by decide +kernel) (Nat.le_refl _) (Nat.le_refl _) (fun K R hK hR => ?_)
    simp only [↓rx_iload_n2, ↓rx_ireturn, ↓rx_nil, ↓ry_li0s, ↓ry_li0z, rz_set, rz_nol, rz_clr, List.set_cons_zero, List.set_cons_succ, rz_tr, Nat.reduceAdd, Int.reduceAdd, Int.reduceToNat, Int.reduceSub, Int.reduceNeg, Int.cast_ofNat_Int]
    try simp (disch := omega) only [rb_0, Bool.not_eq_true, Bool.not_eq_false, pk_us, pk_un, va_up_self, va_up_ne, nI_add, pk_mul, nI_clamp, vp_inT, nI_ltI, nI_leI, nI_eqI, pk_sub, true_and, and_true]
    refine hR _ _ rz_b_nb ?_
    rw [← hQ]
    first
      | (refine rv_f ?_ (key true u u I4 A4 ?_ ?_ (fun j h1 h2 => ?_) (fun j hj => ?_) (fun j h1 h2 => ?_) y3) ⟨k, true, u, hk, rfl, z5, hl.2, rfl, rfl⟩
         · rw [i4 0 rfl, i3 0 rfl, pk_un (by decide), i2 0 rfl, pk_us]
         · rw [i4 0 rfl, i3 0 rfl, pk_un (by decide), i2 0 rfl, pk_us]
         · exact ⟨u.length, by omega, by rw [i4 46 rfl]; exact y1⟩
         · have e4 := fun (q : [12].contains j = false) => i4 j q
           have e3 := fun (q : [46].contains j = false) => i3 j q
           rw [e4 (by simp; omega), e3 (by simp; omega), pk_un (by omega)]
           rw [hkp.1.2 j (by omega) (by omega), pk_un (by omega)]
         · rw [a4 j (by simp; omega), a3 j (by simp; omega)]; exact hkp.2.1 j (by omega)
         · rw [a4 j (by simp; omega), a3 j (by simp; omega)]; exact hkp.2.2 j h1 h2)
      | (refine rv_f ?_ (key false [] [] I4 A4 ?_ ?_ (fun j h1 h2 => ?_) (fun j hj => ?_) (fun j h1 h2 => ?_) y3) ⟨k, false, u, hk, rfl, z5, hl.2, rfl, rfl⟩
         · rw [i4 0 rfl, pk_un (by decide), i2 0 rfl, pk_us]
         · rw [i4 0 rfl, pk_un (by decide), i2 0 rfl, pk_us]
         · exact ⟨0, by omega, by rw [i4 46 rfl]; exact pk_us⟩
         · have e4 := fun (q : [12].contains j = false) => i4 j q
           rw [e4 (by simp; omega), pk_un (by omega)]
           rw [hkp.1.2 j (by omega) (by omega), pk_un (by omega)]
         · rw [a4 j (by simp; omega)]; exact hkp.2.1 j (by omega)
         · rw [a4 j (by simp; omega)]; exact hkp.2.2 j h1 h2)
