/-! the reference: addWay, turnWays, isBefore -/
def wy (n : Int32) (S Z X : Nat → Int32) (W : List (Nat × List Nat)) : Prop := n = nI W.length ∧ W.length ≤ 201 ∧ ∀ i (h : i < W.length), S i = nI W[i].1 ∧ Z i = nI W[i].2.length ∧ sg X (40 * i) W[i].2 ∧ W[i].1 < 6 ∧ W[i].2.length ≤ 36 ∧ ∀ x ∈ W[i].2, x < 8
def wadd (N : List (Nat × List Nat)) (x : Nat × List Nat) : List (Nat × List Nat) := if 200 < N.length then N else if x ∈ N then N else N ++ [x]
/-- a word as an array -/
def wsg (w : List Nat) : Nat → Int32 := fun k => nI (w.getD k 0)
theorem wsg_at {w : List Nat} {k : Nat} (h : k < w.length) : wsg w k = nI w[k] := by simp [wsg, h]
theorem sg_wsg {w : List Nat} : sg (wsg w) 0 w := fun k hk => by rw [Nat.zero_add, wsg_at hk]
theorem re_ng (x : Int32) : -(-1 - x) - nI 1 = x := by
  have : nI 1 = 1 := rfl
  rw [this]; grind
theorem re_ng0 : ∀ q, q < 6 → (-1 - nI (32 * q) : Int32) < 0 := by decide +kernel
theorem sg_eq {g h : Nat → Int32} {o p : Nat} {u v : List Nat} (h1 : sg g o u) (h2 : sg h p v) (hu : ∀ x ∈ u, x < 2 ^ 31) (hv : ∀ x ∈ v, x < 2 ^ 31) {k : Nat} (k1 : k < u.length) (k2 : k < v.length) : (g (o + k) = h (p + k)) = (u[k] = v[k]) := by
  rw [h1 k k1, h2 k k2]; exact propext (nI_eq (hu _ (List.getElem_mem _)) (hv _ (List.getElem_mem _)))
theorem lt8 {u : List Nat} (h : ∀ x ∈ u, x < 8) : ∀ x ∈ u, x < 2 ^ 31 := fun x hx => Nat.lt_trans (h x hx) (by decide)
set_option maxRecDepth 100000 in
set_option maxHeartbeats 400000 in
theorem c_Mod_addWay {w : rz_w} {d : Nat} {G : rz_G} {a : Nat} {I : Nat → Int32} {A : Nat → Nat → Int32} {W N : List (Nat × List Nat)} {st way : Nat} {v : List Nat} {o : Int32} (hW : wy (I 50) (A 52) (A 53) (A 54) W) (hN : wy (I 51) (A 55) (A 56) (A 57) N) (hst : st < 6) (hway : way < W.length) (hv8 : ∀ x ∈ v, x < 8) (hl : W[way].2.length + v.length ≤ 36) (ho : (∃ p, p + v.length ≤ 1536 ∧ o = nI p ∧ sg (A 20) p v) ∨ ∃ q, q < 6 ∧ o = -1 - nI (32 * q) ∧ sg (A 22) (32 * q) v) : rz_C w d 0 0 y_Mod_addWay m_Mod_addWay [.ref a, .int (nI st), .int (nI way), .int o, .int (nI v.length)] (re_put G a I A) (fun (r : Option Value) (G' : rz_G) => r = none ∧ ∃ I' A', G' = re_put G a I' A' ∧ fi [51] I I' ∧ fa [55, 56, 57] A A' ∧ wy (I' 51) (A' 55) (A' 56) (A' 57) (wadd N (st, W[way].2 ++ v))) := by
  generalize hQ : (fun (r : Option Value) (G' : rz_G) => r = none ∧ ∃ I' A', G' = re_put G a I' A' ∧ fi [51] I I' ∧ fa [55, 56, 57] A A' ∧ wy (I' 51) (A' 55) (A' 56) (A' 57) (wadd N (st, W[way].2 ++ v))) = Q
  obtain ⟨n1, n2, n3⟩ := id hN
  obtain ⟨w1, w2, w3⟩ := hW
  obtain ⟨u1, u2, u3, u4, u5, u6⟩ := w3 way hway
  generalize hu : W[way].2 = u at *
  have hS : (u ++ v).length = u.length + v.length := List.length_append
  generalize hSS : u.length + v.length = S at *
  have hfull8 : ∀ x ∈ u ++ v, x < 8 := fun x hx => by rcases List.mem_append.mp hx with hx | hx; exact u6 x hx; exact hv8 x hx
  rcases (Nat.lt_or_ge 200 N.length) with h200 | h200
  · refine rz_enter' [some (.ref a), some (.int (nI st)), some (.int (nI way)), some (.int o), some (.int (nI v.length)), none, none, none, none, none] (by decide +kernel) rfl rfl (Nat.le_of_ble_eq_true rfl) rfl ?_
    refine rz_blk' [(.aload_n 0, 1, 0, 0), (.getfield 229, 3, 10, 51), (.sipush 200, 3, 0, 0), (.if_icmp .le 4, 3, 0, 0)] (by decide +kernel) (Nat.le_refl _) (Nat.le_refl _) (fun K R hK hR => ?_)
    simp only [rw_s200, ↓rx_aload_n0, ↓rx_getfield, ↓rx_if_icmp_le, ↓rx_nil, ↓rx_sipush, ↓ry_i2, ↓ry_lr0s, ↓ry_lr0z, ↓ry_obu, ↓ry_r1, ↓re_F51, ↓re_ob, n1, rz_set, rz_nol, rz_clr, List.set_cons_zero, List.set_cons_succ, rz_tr, Nat.reduceAdd, Int.reduceAdd, Int.reduceToNat, Int.reduceSub, Int.reduceNeg, Int.cast_ofNat_Int]
    try simp (disch := omega) only [n1, pk_us, pk_un, va_up_self, va_up_ne, nI_add, pk_mul, nI_clamp, vp_inT, nI_ltI, nI_leI, nI_eqI, pk_sub, true_and, and_true]
    refine ⟨fun q1 => by omega, fun q1 => hK _ _ _ _ ?_⟩
    refine rz_blk' [(.return_, 1, 0, 0)] (by decide +kernel) (Nat.le_refl _) (Nat.le_refl _) (fun K R hK hR => ?_)
    simp only [↓rx_nil, ↓rx_return_, n1, rz_set, rz_nol, rz_clr, List.set_cons_zero, List.set_cons_succ, rz_tr, Nat.reduceAdd, Int.reduceAdd, Int.reduceToNat, Int.reduceSub, Int.reduceNeg, Int.cast_ofNat_Int]
    try simp (disch := omega) only [n1, pk_us, pk_un, va_up_self, va_up_ne, nI_add, pk_mul, nI_clamp, vp_inT, nI_ltI, nI_leI, nI_eqI, pk_sub, true_and, and_true]
    refine hR _ _ (rz_nb_i (by decide)) ?_
    rw [← hQ]
    refine ⟨rfl, _, _, rfl, fi.rf, fa.rf, ?_⟩
    rw [wadd, if_pos h200]; exact hN
  generalize hB : va_up A 57 (cp (A 57) (40 * N.length) (wsg (u ++ v)) 0 S) = B
  have hB57 : B 57 = cp (A 57) (40 * N.length) (wsg (u ++ v)) 0 S := by rw [← hB, va_up_self]
  have hBo : ∀ f, f ≠ 57 → B f = A f := fun f hf => by rw [← hB, va_up_ne _ _ hf]
  have hBf : sg (B 57) (40 * N.length) (u ++ v) := by rw [hB57]; exact sg_cp sg_wsg (by omega)
  have hBn : ∀ i (h : i < N.length), B 55 i = nI N[i].1 ∧ B 56 i = nI N[i].2.length ∧ sg (B 57) (40 * i) N[i].2 := fun i h => by
    obtain ⟨y1, y2, y3, y4, y5, y6⟩ := n3 i h
    rw [hBo 55 (by decide), hBo 56 (by decide), hB57]
    exact ⟨y1, y2, y3.k (fun x q1 q2 => cp_out (by omega))⟩
  have hfaB : fa [55, 56, 57] A B := fun f hf => hBo f (by intro e; subst e; revert hf; decide)
  have hend : ∀ (b : Bool) (z8 z9 : Option Value), b = decide ((st, (u ++ v)) ∈ N) → rz_T w d 0 0 m_Mod_addWay 0 0 235 [some (.ref a), some (.int (nI st)), some (.int (nI way)), some (.int o), some (.int (nI v.length)), some (.int (nI S)), some (.int (nI (40 * N.length))), some (.int (rz_b b)), z8, z9] [] (re_put G a I B) Q := by
    intro b z8 z9 hb
    cases b with
    | true =>
      refine rz_blk' [(.iload 7, 2, 0, 0), (.ifCond .eq 4, 3, 0, 0)] (by decide +kernel) (Nat.le_refl _) (Nat.le_refl _) (fun K R hK hR => ?_)
      simp only [↓rx_ifCond_eq, ↓rx_iload, ↓rx_nil, ↓ry_i1, ↓ry_li0s, ↓ry_li0z, rz_set, rz_nol, rz_clr, List.set_cons_zero, List.set_cons_succ, rz_tr, Nat.reduceAdd, Int.reduceAdd, Int.reduceToNat, Int.reduceSub, Int.reduceNeg, Int.cast_ofNat_Int]
      try simp (disch := omega) only [pk_us, pk_un, va_up_self, va_up_ne, nI_add, pk_mul, nI_clamp, vp_inT, nI_ltI, nI_leI, nI_eqI, pk_sub, true_and, and_true]
      refine ⟨fun q2 => absurd q2 (by decide), fun q2 => hK _ _ _ _ ?_⟩
      refine rz_blk' [(.return_, 1, 0, 0)] (by decide +kernel) (Nat.le_refl _) (Nat.le_refl _) (fun K R hK hR => ?_)
      simp only [↓rx_nil, ↓rx_return_, rz_set, rz_nol, rz_clr, List.set_cons_zero, List.set_cons_succ, rz_tr, Nat.reduceAdd, Int.reduceAdd, Int.reduceToNat, Int.reduceSub, Int.reduceNeg, Int.cast_ofNat_Int]
      try simp (disch := omega) only [pk_us, pk_un, va_up_self, va_up_ne, nI_add, pk_mul, nI_clamp, vp_inT, nI_ltI, nI_leI, nI_eqI, pk_sub, true_and, and_true]
      refine hR _ _ (rz_nb_i (by decide)) ?_
      rw [← hQ]
      refine ⟨rfl, _, _, rfl, fi.rf, fun f hf => hBo f (by intro e; subst e; revert hf; decide), ?_⟩
      rw [wadd, if_neg (by omega), if_pos (of_decide_eq_true hb.symm), hBo 55 (by decide), hBo 56 (by decide)]
      exact ⟨n1, n2, fun i h => ⟨(n3 i h).1, (n3 i h).2.1, (hBn i h).2.2, (n3 i h).2.2.2⟩⟩
    | false =>
      refine rz_blk' [(.iload 7, 2, 0, 0), (.ifCond .eq 4, 3, 0, 0)] (by decide +kernel) (Nat.le_refl _) (Nat.le_refl _) (fun K R hK hR => ?_)
      simp only [↓rx_ifCond_eq, ↓rx_iload, ↓rx_nil, ↓ry_i1, ↓ry_li0s, ↓ry_li0z, n1, rz_set, rz_nol, rz_clr, List.set_cons_zero, List.set_cons_succ, rz_tr, Nat.reduceAdd, Int.reduceAdd, Int.reduceToNat, Int.reduceSub, Int.reduceNeg, Int.cast_ofNat_Int]
      try simp (disch := omega) only [n1, pk_us, pk_un, va_up_self, va_up_ne, nI_add, pk_mul, nI_clamp, vp_inT, nI_ltI, nI_leI, nI_eqI, pk_sub, true_and, and_true]
      refine ⟨fun q3 => hK _ _ _ _ ?_, fun q3 => absurd rfl q3⟩
      refine rz_blk' [(.aload_n 0, 1, 0, 0), (.getfield 141, 3, 10, 55), (.aload_n 0, 1, 0, 0), (.getfield 229, 3, 10, 51), (.iload_n 1, 1, 0, 0), (.iastore, 1, 0, 0)] (by decide +kernel) (Nat.le_refl _) (Nat.le_refl _) (fun K R hK hR => ?_)
      simp only [↓rx_aload_n0, ↓rx_getfield, ↓rx_iastore, ↓rx_iload_n1, ↓rx_nil, ↓ry_iau, ↓ry_li0s, ↓ry_li0z, ↓ry_lr0s, ↓ry_lr0z, ↓ry_obu, ↓ry_r1, ↓ry_rii, true_and, re_a55, ↓re_F51, ↓re_F55, ↓re_i55, ↓re_ob, n1, rz_set, rz_nol, rz_clr, List.set_cons_zero, List.set_cons_succ, rz_tr, Nat.reduceAdd, Int.reduceAdd, Int.reduceToNat, Int.reduceSub, Int.reduceNeg, Int.cast_ofNat_Int]
      try simp (disch := omega) only [n1, pk_us, pk_un, va_up_self, va_up_ne, nI_add, pk_mul, nI_clamp, vp_inT, nI_ltI, nI_leI, nI_eqI, pk_sub, true_and, and_true]
      refine hK _ _ _ _ ?_
      refine rz_blk' [(.aload_n 0, 1, 0, 0), (.getfield 144, 3, 10, 56), (.aload_n 0, 1, 0, 0), (.getfield 229, 3, 10, 51), (.iload 5, 2, 0, 0), (.iastore, 1, 0, 0)] (by decide +kernel) (Nat.le_refl _) (Nat.le_refl _) (fun K R hK hR => ?_)
      simp only [↓rx_aload_n0, ↓rx_getfield, ↓rx_iastore, ↓rx_iload, ↓rx_nil, ↓ry_iau, ↓ry_li0s, ↓ry_li0z, ↓ry_lr0s, ↓ry_lr0z, ↓ry_obu, ↓ry_r1, ↓ry_rii, true_and, re_a56, ↓re_F51, ↓re_F56, ↓re_i56, ↓re_ob, n1, rz_set, rz_nol, rz_clr, List.set_cons_zero, List.set_cons_succ, rz_tr, Nat.reduceAdd, Int.reduceAdd, Int.reduceToNat, Int.reduceSub, Int.reduceNeg, Int.cast_ofNat_Int]
      try simp (disch := omega) only [n1, pk_us, pk_un, va_up_self, va_up_ne, nI_add, pk_mul, nI_clamp, vp_inT, nI_ltI, nI_leI, nI_eqI, pk_sub, true_and, and_true]
      refine hK _ _ _ _ ?_
      refine rz_blk' [(.aload_n 0, 1, 0, 0), (.dup, 1, 0, 0), (.getfield 229, 3, 10, 51), (.iconst 1, 1, 0, 0), (.iadd, 1, 0, 0), (.putfield 229, 3, 10, 51)] (by decide +kernel) (Nat.le_refl _) (Nat.le_refl _) (fun K R hK hR => ?_)
      simp only [List.length_cons, List.length_nil, Nat.reduceLT, rf_10_51, rw_c1, ↓rx_aload_n0, ↓rx_dup, ↓rx_getfield, ↓rx_iadd, ↓rx_iconst, ↓rx_nil, ↓rx_putfield, ↓ry_i2, ↓ry_lr0s, ↓ry_lr0z, ↓ry_obu, ↓ry_r1, ↓ry_v1i, ↓ry_v1r, ↓ry_vr, true_and, re_len, re_u51, ↓re_F51, ↓re_ob, n1, rz_set, rz_nol, rz_clr, List.set_cons_zero, List.set_cons_succ, rz_tr, Nat.reduceAdd, Int.reduceAdd, Int.reduceToNat, Int.reduceSub, Int.reduceNeg, Int.cast_ofNat_Int]
      try simp (disch := omega) only [n1, pk_us, pk_un, va_up_self, va_up_ne, nI_add, pk_mul, nI_clamp, vp_inT, nI_ltI, nI_leI, nI_eqI, pk_sub, true_and, and_true]
      refine hK _ _ _ _ ?_
      refine rz_blk' [(.return_, 1, 0, 0)] (by decide +kernel) (Nat.le_refl _) (Nat.le_refl _) (fun K R hK hR => ?_)
      simp only [↓rx_nil, ↓rx_return_, n1, rz_set, rz_nol, rz_clr, List.set_cons_zero, List.set_cons_succ, rz_tr, Nat.reduceAdd, Int.reduceAdd, Int.reduceToNat, Int.reduceSub, Int.reduceNeg, Int.cast_ofNat_Int]
      try simp (disch := omega) only [n1, pk_us, pk_un, va_up_self, va_up_ne, nI_add, pk_mul, nI_clamp, vp_inT, nI_ltI, nI_leI, nI_eqI, pk_sub, true_and, and_true]
      refine hR _ _ (rz_nb_i (by decide)) ?_
      rw [← hQ]
      refine ⟨rfl, _, _, rfl, fi.rf.u rfl, (hfaB.u rfl).u rfl, ?_⟩
      rw [wadd, if_neg (by omega), if_neg (of_decide_eq_false hb.symm), va_up_ne _ _ (by decide), va_up_self, va_up_self, va_up_ne _ _ (by decide), va_up_ne _ _ (by decide), pk_us]
      refine ⟨by simp, by simp; omega, fun i h => ?_⟩
      simp only [List.length_append, List.length_cons, List.length_nil, Nat.zero_add] at h
      by_cases c : i < N.length
      · rw [pk_un (by omega), pk_un (by omega), List.getElem_append_left c]
        exact ⟨(hBn i c).1, (hBn i c).2.1, (hBn i c).2.2, (n3 i c).2.2.2⟩
      · have c' : i = N.length := by omega
        subst c'
        rw [pk_us, pk_us, List.getElem_append_right (Nat.le_refl _)]
        simp only [Nat.sub_self, List.getElem_cons_zero]
        exact ⟨trivial, by rw [hS], hBf, hst, by rw [hS]; exact hl, hfull8⟩
  have il : ∀ (w0 : Nat) (hw0 : w0 < N.length), (∀ (b : Bool) (z9 : Option Value), b = decide (N[w0] = (st, (u ++ v))) → rz_T w d 0 0 m_Mod_addWay 0 0 229 [some (.ref a), some (.int (nI st)), some (.int (nI way)), some (.int o), some (.int (nI v.length)), some (.int (nI S)), some (.int (nI (40 * N.length))), some (.int (rz_b b)), some (.int (nI w0)), z9] [] (re_put G a I B) Q) → ∀ (j i : Nat) (b : Bool), i + j = S → (b = true ↔ (N[w0].1 = st ∧ N[w0].2.length = S ∧ ∀ k, k < i → N[w0].2[k]? = (u ++ v)[k]?)) → rz_T w d 0 0 m_Mod_addWay 0 0 178 [some (.ref a), some (.int (nI st)), some (.int (nI way)), some (.int o), some (.int (nI v.length)), some (.int (nI S)), some (.int (nI (40 * N.length))), some (.int (rz_b b)), some (.int (nI w0)), some (.int (nI i))] [] (re_put G a I B) Q := by
    intro w0 hw0 hx j
    obtain ⟨y1, y2, y3, y4, y5, y6⟩ := n3 w0 hw0
    have hx0 : ∀ (z9 : Option Value), N[w0] ≠ (st, (u ++ v)) → rz_T w d 0 0 m_Mod_addWay 0 0 229 [some (.ref a), some (.int (nI st)), some (.int (nI way)), some (.int o), some (.int (nI v.length)), some (.int (nI S)), some (.int (nI (40 * N.length))), some (.int (rz_b false)), some (.int (nI w0)), z9] [] (re_put G a I B) Q := fun z9 hne => hx false z9 (decide_eq_false hne).symm
    induction j with
    | zero =>
      intro i b hij hb
      have hi : i = S := by omega
      subst hi
      have hfin := hx b (some (.int (nI i))) (by
        rw [Bool.eq_iff_iff, hb, decide_eq_true_eq]
        constructor
        · rintro ⟨c1, c2, c3⟩
          refine Prod.ext c1 (List.ext_getElem? fun k => ?_)
          by_cases ck : k < i
          · exact c3 k ck
          · rw [List.getElem?_eq_none (l := N[w0].2) (by omega), List.getElem?_eq_none (l := u ++ v) (by omega)]
        · intro e
          rw [e]
          exact ⟨rfl, hS, fun _ _ => rfl⟩)
      refine rz_blk' [(.iload 9, 2, 0, 0), (.iload 5, 2, 0, 0), (.if_icmp .ge 47, 3, 0, 0)] (by decide +kernel) (Nat.le_refl _) (Nat.le_refl _) (fun K R hK hR => ?_)
      simp only [↓rx_if_icmp_ge, ↓rx_iload, ↓rx_nil, ↓ry_i2, ↓ry_li0s, ↓ry_li0z, rz_set, rz_nol, rz_clr, List.set_cons_zero, List.set_cons_succ, rz_tr, Nat.reduceAdd, Int.reduceAdd, Int.reduceToNat, Int.reduceSub, Int.reduceNeg, Int.cast_ofNat_Int]
      try simp (disch := omega) only [pk_us, pk_un, va_up_self, va_up_ne, nI_add, pk_mul, nI_clamp, vp_inT, nI_ltI, nI_leI, nI_eqI, pk_sub, true_and, and_true]
      refine ⟨fun q4 => hK _ _ _ _ ?_, fun q4 => by omega⟩
      exact hfin
    | succ j ih =>
      intro i b hij hb
      cases b with
      | false =>
        refine rz_blk' [(.iload 9, 2, 0, 0), (.iload 5, 2, 0, 0), (.if_icmp .ge 47, 3, 0, 0)] (by decide +kernel) (Nat.le_refl _) (Nat.le_refl _) (fun K R hK hR => ?_)
        simp only [↓rx_if_icmp_ge, ↓rx_iload, ↓rx_nil, ↓ry_i2, ↓ry_li0s, ↓ry_li0z, rz_set, rz_nol, rz_clr, List.set_cons_zero, List.set_cons_succ, rz_tr, Nat.reduceAdd, Int.reduceAdd, Int.reduceToNat, Int.reduceSub, Int.reduceNeg, Int.cast_ofNat_Int]
        try simp (disch := omega) only [pk_us, pk_un, va_up_self, va_up_ne, nI_add, pk_mul, nI_clamp, vp_inT, nI_ltI, nI_leI, nI_eqI, pk_sub, true_and, and_true]
        refine ⟨fun q5 => by omega, fun q5 => hK _ _ _ _ ?_⟩
        refine rz_blk' [(.iload 7, 2, 0, 0), (.ifCond .eq 42, 3, 0, 0)] (by decide +kernel) (Nat.le_refl _) (Nat.le_refl _) (fun K R hK hR => ?_)
        simp only [↓rx_ifCond_eq, ↓rx_iload, ↓rx_nil, ↓ry_i1, ↓ry_li0s, ↓ry_li0z, rz_set, rz_nol, rz_clr, List.set_cons_zero, List.set_cons_succ, rz_tr, Nat.reduceAdd, Int.reduceAdd, Int.reduceToNat, Int.reduceSub, Int.reduceNeg, Int.cast_ofNat_Int]
        try simp (disch := omega) only [pk_us, pk_un, va_up_self, va_up_ne, nI_add, pk_mul, nI_clamp, vp_inT, nI_ltI, nI_leI, nI_eqI, pk_sub, true_and, and_true]
        refine ⟨fun q6 => hK _ _ _ _ ?_, fun q6 => absurd rfl q6⟩
        refine hx0 _ (fun e => ?_)
        have := hb.mpr (by rw [e]; exact ⟨rfl, hS, fun _ _ => rfl⟩)
        cases this
      | true =>
        obtain ⟨c1, c2, c3⟩ := hb.mp rfl
        have k1 : i < N[w0].2.length := by omega
        have k2 : i < (u ++ v).length := by omega
        have hcmp := sg_eq (hBn w0 hw0).2.2 hBf (lt8 y6) (lt8 hfull8) k1 k2
        refine rz_blk' [(.iload 9, 2, 0, 0), (.iload 5, 2, 0, 0), (.if_icmp .ge 47, 3, 0, 0)] (by decide +kernel) (Nat.le_refl _) (Nat.le_refl _) (fun K R hK hR => ?_)
        simp only [↓rx_if_icmp_ge, ↓rx_iload, ↓rx_nil, ↓ry_i2, ↓ry_li0s, ↓ry_li0z, rz_set, rz_nol, rz_clr, List.set_cons_zero, List.set_cons_succ, rz_tr, Nat.reduceAdd, Int.reduceAdd, Int.reduceToNat, Int.reduceSub, Int.reduceNeg, Int.cast_ofNat_Int]
        try simp (disch := omega) only [hcmp, pk_us, pk_un, va_up_self, va_up_ne, nI_add, pk_mul, nI_clamp, vp_inT, nI_ltI, nI_leI, nI_eqI, pk_sub, true_and, and_true]
        refine ⟨fun q7 => by omega, fun q7 => hK _ _ _ _ ?_⟩
        refine rz_blk' [(.iload 7, 2, 0, 0), (.ifCond .eq 42, 3, 0, 0)] (by decide +kernel) (Nat.le_refl _) (Nat.le_refl _) (fun K R hK hR => ?_)
        simp only [↓rx_ifCond_eq, ↓rx_iload, ↓rx_nil, ↓ry_i1, ↓ry_li0s, ↓ry_li0z, rz_set, rz_nol, rz_clr, List.set_cons_zero, List.set_cons_succ, rz_tr, Nat.reduceAdd, Int.reduceAdd, Int.reduceToNat, Int.reduceSub, Int.reduceNeg, Int.cast_ofNat_Int]
        try simp (disch := omega) only [hcmp, pk_us, pk_un, va_up_self, va_up_ne, nI_add, pk_mul, nI_clamp, vp_inT, nI_ltI, nI_leI, nI_eqI, pk_sub, true_and, and_true]
        refine ⟨fun q8 => absurd q8 (by decide), fun q8 => hK _ _ _ _ ?_⟩
        refine rz_blk' [(.aload_n 0, 1, 0, 0), (.getfield 147, 3, 10, 57), (.bipush 40, 2, 0, 0), (.iload 8, 2, 0, 0), (.imul, 1, 0, 0), (.iload 9, 2, 0, 0), (.iadd, 1, 0, 0), (.iaload, 1, 0, 0), (.aload_n 0, 1, 0, 0), (.getfield 147, 3, 10, 57), (.iload 6, 2, 0, 0), (.iload 9, 2, 0, 0), (.iadd, 1, 0, 0), (.iaload, 1, 0, 0), (.if_icmp .ne 7, 3, 0, 0)] (by decide +kernel) (Nat.le_refl _) (Nat.le_refl _) (fun K R hK hR => ?_)
        simp only [rw_b40, ↓rx_aload_n0, ↓rx_bipush, ↓rx_getfield, ↓rx_iadd, ↓rx_iaload, ↓rx_if_icmp_ne, ↓rx_iload, ↓rx_imul, ↓rx_nil, ↓ry_i2, ↓ry_iau, ↓ry_li0s, ↓ry_li0z, ↓ry_lr0s, ↓ry_lr0z, ↓ry_obu, ↓ry_r1, ↓ry_ri, true_and, re_a57, ↓re_F57, ↓re_i57, ↓re_ob, rz_set, rz_nol, rz_clr, List.set_cons_zero, List.set_cons_succ, rz_tr, Nat.reduceAdd, Int.reduceAdd, Int.reduceToNat, Int.reduceSub, Int.reduceNeg, Int.cast_ofNat_Int]
        try simp (disch := omega) only [hcmp, pk_us, pk_un, va_up_self, va_up_ne, nI_add, pk_mul, nI_clamp, vp_inT, nI_ltI, nI_leI, nI_eqI, pk_sub, true_and, and_true]
        refine ⟨fun q9 => hK _ _ _ _ ?_, fun q9 => hK _ _ _ _ ?_⟩
        · -- 213 taken
          refine rz_blk' [(.iconst 0, 1, 0, 0), (.istore 7, 2, 0, 0)] (by decide +kernel) (Nat.le_refl _) (Nat.le_refl _) (fun K R hK hR => ?_)
          simp only [rw_c0, ↓rx_iconst, ↓rx_istore, ↓rx_nil, ↓ry_i1, rz_set, rz_nol, rz_clr, List.set_cons_zero, List.set_cons_succ, rz_tr, Nat.reduceAdd, Int.reduceAdd, Int.reduceToNat, Int.reduceSub, Int.reduceNeg, Int.cast_ofNat_Int]
          try simp (disch := omega) only [hcmp, pk_us, pk_un, va_up_self, va_up_ne, nI_add, pk_mul, nI_clamp, vp_inT, nI_ltI, nI_leI, nI_eqI, pk_sub, true_and, and_true]
          refine hK _ _ _ _ ?_
          refine rz_blk' [(.iinc 9 1, 3, 0, 0)] (by decide +kernel) (Nat.le_refl _) (Nat.le_refl _) (fun K R hK hR => ?_)
          simp only [rw_c1, ↓rx_iinc, ↓rx_nil, ↓ry_li0s, ↓ry_li0z, rz_set, rz_nol, rz_clr, List.set_cons_zero, List.set_cons_succ, rz_tr, Nat.reduceAdd, Int.reduceAdd, Int.reduceToNat, Int.reduceSub, Int.reduceNeg, Int.cast_ofNat_Int]
          try simp (disch := omega) only [hcmp, pk_us, pk_un, va_up_self, va_up_ne, nI_add, pk_mul, nI_clamp, vp_inT, nI_ltI, nI_leI, nI_eqI, pk_sub, true_and, and_true]
          refine hK _ _ _ _ ?_
          refine rz_blk' [(.goto (-48), 3, 0, 0)] (by decide +kernel) (Nat.le_refl _) (Nat.le_refl _) (fun K R hK hR => ?_)
          simp only [↓rx_goto, ↓rx_nil, rz_set, rz_nol, rz_clr, List.set_cons_zero, List.set_cons_succ, rz_tr, Nat.reduceAdd, Int.reduceAdd, Int.reduceToNat, Int.reduceSub, Int.reduceNeg, Int.cast_ofNat_Int]
          try simp (disch := omega) only [hcmp, pk_us, pk_un, va_up_self, va_up_ne, nI_add, pk_mul, nI_clamp, vp_inT, nI_ltI, nI_leI, nI_eqI, pk_sub, true_and, and_true]
          refine hK _ _ _ _ ?_
          first
            | (refine ih (i + 1) true (by omega) ⟨fun _ => ⟨c1, c2, fun k hk => ?_⟩, fun _ => rfl⟩
               by_cases ck : k = i
               · subst ck; rw [List.getElem?_eq_getElem k1, List.getElem?_eq_getElem k2]; exact congrArg some (by simpa using q9)
               · exact c3 k (by omega))
            | (refine ih (i + 1) false (by omega) ⟨fun q => (by cases q), fun ⟨_, _, hk⟩ => ?_⟩
               have := hk i (by omega)
               rw [List.getElem?_eq_getElem k1, List.getElem?_eq_getElem k2] at this
               exact absurd (Option.some.inj this) q9)
        · -- 213 not taken
          refine rz_blk' [(.iconst 1, 1, 0, 0), (.goto 4, 3, 0, 0)] (by decide +kernel) (Nat.le_refl _) (Nat.le_refl _) (fun K R hK hR => ?_)
          simp only [rw_c1, ↓rx_goto, ↓rx_iconst, ↓rx_nil, rz_set, rz_nol, rz_clr, List.set_cons_zero, List.set_cons_succ, rz_tr, Nat.reduceAdd, Int.reduceAdd, Int.reduceToNat, Int.reduceSub, Int.reduceNeg, Int.cast_ofNat_Int]
          try simp (disch := omega) only [hcmp, pk_us, pk_un, va_up_self, va_up_ne, nI_add, pk_mul, nI_clamp, vp_inT, nI_ltI, nI_leI, nI_eqI, pk_sub, true_and, and_true]
          refine hK _ _ _ _ ?_
          refine rz_blk' [(.istore 7, 2, 0, 0)] (by decide +kernel) (Nat.le_refl _) (Nat.le_refl _) (fun K R hK hR => ?_)
          simp only [↓rx_istore, ↓rx_nil, ↓ry_i1, rz_set, rz_nol, rz_clr, List.set_cons_zero, List.set_cons_succ, rz_tr, Nat.reduceAdd, Int.reduceAdd, Int.reduceToNat, Int.reduceSub, Int.reduceNeg, Int.cast_ofNat_Int]
          try simp (disch := omega) only [hcmp, pk_us, pk_un, va_up_self, va_up_ne, nI_add, pk_mul, nI_clamp, vp_inT, nI_ltI, nI_leI, nI_eqI, pk_sub, true_and, and_true]
          refine hK _ _ _ _ ?_
          refine rz_blk' [(.iinc 9 1, 3, 0, 0)] (by decide +kernel) (Nat.le_refl _) (Nat.le_refl _) (fun K R hK hR => ?_)
          simp only [rw_c1, ↓rx_iinc, ↓rx_nil, ↓ry_li0s, ↓ry_li0z, rz_set, rz_nol, rz_clr, List.set_cons_zero, List.set_cons_succ, rz_tr, Nat.reduceAdd, Int.reduceAdd, Int.reduceToNat, Int.reduceSub, Int.reduceNeg, Int.cast_ofNat_Int]
          try simp (disch := omega) only [hcmp, pk_us, pk_un, va_up_self, va_up_ne, nI_add, pk_mul, nI_clamp, vp_inT, nI_ltI, nI_leI, nI_eqI, pk_sub, true_and, and_true]
          refine hK _ _ _ _ ?_
          refine rz_blk' [(.goto (-48), 3, 0, 0)] (by decide +kernel) (Nat.le_refl _) (Nat.le_refl _) (fun K R hK hR => ?_)
          simp only [↓rx_goto, ↓rx_nil, rz_set, rz_nol, rz_clr, List.set_cons_zero, List.set_cons_succ, rz_tr, Nat.reduceAdd, Int.reduceAdd, Int.reduceToNat, Int.reduceSub, Int.reduceNeg, Int.cast_ofNat_Int]
          try simp (disch := omega) only [hcmp, pk_us, pk_un, va_up_self, va_up_ne, nI_add, pk_mul, nI_clamp, vp_inT, nI_ltI, nI_leI, nI_eqI, pk_sub, true_and, and_true]
          refine hK _ _ _ _ ?_
          first
            | (refine ih (i + 1) true (by omega) ⟨fun _ => ⟨c1, c2, fun k hk => ?_⟩, fun _ => rfl⟩
               by_cases ck : k = i
               · subst ck; rw [List.getElem?_eq_getElem k1, List.getElem?_eq_getElem k2]; exact congrArg some (by simpa using q9)
               · exact c3 k (by omega))
            | (refine ih (i + 1) false (by omega) ⟨fun q => (by cases q), fun ⟨_, _, hk⟩ => ?_⟩
               have := hk i (by omega)
               rw [List.getElem?_eq_getElem k1, List.getElem?_eq_getElem k2] at this
               exact absurd (Option.some.inj this) q9)
  have sl : ∀ (j i : Nat) (b : Bool) (z9 : Option Value), i + j = N.length → (b = true → (st, (u ++ v)) ∈ N) → (b = false → ∀ k (hk : k < N.length), k < i → N[k] ≠ (st, (u ++ v))) → rz_T w d 0 0 m_Mod_addWay 0 0 131 [some (.ref a), some (.int (nI st)), some (.int (nI way)), some (.int o), some (.int (nI v.length)), some (.int (nI S)), some (.int (nI (40 * N.length))), some (.int (rz_b b)), some (.int (nI i)), z9] [] (re_put G a I B) Q := by
    intro j
    induction j with
    | zero =>
      intro i b z9 hij hb1 hb0
      refine rz_blk' [(.iload 8, 2, 0, 0), (.aload_n 0, 1, 0, 0), (.getfield 229, 3, 10, 51), (.if_icmp .ge 98, 3, 0, 0)] (by decide +kernel) (Nat.le_refl _) (Nat.le_refl _) (fun K R hK hR => ?_)
      simp only [↓rx_aload_n0, ↓rx_getfield, ↓rx_if_icmp_ge, ↓rx_iload, ↓rx_nil, ↓ry_i2, ↓ry_li0s, ↓ry_li0z, ↓ry_lr0s, ↓ry_lr0z, ↓ry_obu, ↓ry_r1, ↓re_F51, ↓re_ob, n1, rz_set, rz_nol, rz_clr, List.set_cons_zero, List.set_cons_succ, rz_tr, Nat.reduceAdd, Int.reduceAdd, Int.reduceToNat, Int.reduceSub, Int.reduceNeg, Int.cast_ofNat_Int]
      try simp (disch := omega) only [n1, pk_us, pk_un, va_up_self, va_up_ne, nI_add, pk_mul, nI_clamp, vp_inT, nI_ltI, nI_leI, nI_eqI, pk_sub, true_and, and_true]
      refine ⟨fun q10 => hK _ _ _ _ ?_, fun q10 => by omega⟩
      refine hend b _ _ ?_
      cases b with
      | true => exact (decide_eq_true (hb1 rfl)).symm
      | false =>
        refine (decide_eq_false (fun hm => ?_)).symm
        obtain ⟨k, hk, e⟩ := List.mem_iff_getElem.mp hm
        exact hb0 rfl k hk (by omega) e
    | succ j ih =>
      intro i b z9 hij hb1 hb0
      cases b with
      | true =>
        refine rz_blk' [(.iload 8, 2, 0, 0), (.aload_n 0, 1, 0, 0), (.getfield 229, 3, 10, 51), (.if_icmp .ge 98, 3, 0, 0)] (by decide +kernel) (Nat.le_refl _) (Nat.le_refl _) (fun K R hK hR => ?_)
        simp only [↓rx_aload_n0, ↓rx_getfield, ↓rx_if_icmp_ge, ↓rx_iload, ↓rx_nil, ↓ry_i2, ↓ry_li0s, ↓ry_li0z, ↓ry_lr0s, ↓ry_lr0z, ↓ry_obu, ↓ry_r1, ↓re_F51, ↓re_ob, n1, rz_set, rz_nol, rz_clr, List.set_cons_zero, List.set_cons_succ, rz_tr, Nat.reduceAdd, Int.reduceAdd, Int.reduceToNat, Int.reduceSub, Int.reduceNeg, Int.cast_ofNat_Int]
        try simp (disch := omega) only [n1, pk_us, pk_un, va_up_self, va_up_ne, nI_add, pk_mul, nI_clamp, vp_inT, nI_ltI, nI_leI, nI_eqI, pk_sub, true_and, and_true]
        refine ⟨fun q11 => by omega, fun q11 => hK _ _ _ _ ?_⟩
        refine rz_blk' [(.iload 7, 2, 0, 0), (.ifCond .ne 93, 3, 0, 0)] (by decide +kernel) (Nat.le_refl _) (Nat.le_refl _) (fun K R hK hR => ?_)
        simp only [↓rx_ifCond_ne, ↓rx_iload, ↓rx_nil, ↓ry_i1, ↓ry_li0s, ↓ry_li0z, n1, rz_set, rz_nol, rz_clr, List.set_cons_zero, List.set_cons_succ, rz_tr, Nat.reduceAdd, Int.reduceAdd, Int.reduceToNat, Int.reduceSub, Int.reduceNeg, Int.cast_ofNat_Int]
        try simp (disch := omega) only [n1, pk_us, pk_un, va_up_self, va_up_ne, nI_add, pk_mul, nI_clamp, vp_inT, nI_ltI, nI_leI, nI_eqI, pk_sub, true_and, and_true]
        refine ⟨fun q12 => hK _ _ _ _ ?_, fun q12 => absurd q12 (by decide)⟩
        exact hend true _ _ (decide_eq_true (hb1 rfl)).symm
      | false =>
        have hiN : i < N.length := by omega
        obtain ⟨y1, y2, y3⟩ := hBn i hiN
        obtain ⟨-, -, -, y4, y5, y6⟩ := n3 i hiN
        have hx : ∀ (b : Bool) (z9 : Option Value), b = decide (N[i] = (st, (u ++ v))) → rz_T w d 0 0 m_Mod_addWay 0 0 229 [some (.ref a), some (.int (nI st)), some (.int (nI way)), some (.int o), some (.int (nI v.length)), some (.int (nI S)), some (.int (nI (40 * N.length))), some (.int (rz_b b)), some (.int (nI i)), z9] [] (re_put G a I B) Q := by
          intro b z9 hb
          refine rz_blk' [(.iinc 8 1, 3, 0, 0)] (by decide +kernel) (Nat.le_refl _) (Nat.le_refl _) (fun K R hK hR => ?_)
          simp only [rw_c1, ↓rx_iinc, ↓rx_nil, ↓ry_li0s, ↓ry_li0z, rz_set, rz_nol, rz_clr, List.set_cons_zero, List.set_cons_succ, rz_tr, Nat.reduceAdd, Int.reduceAdd, Int.reduceToNat, Int.reduceSub, Int.reduceNeg, Int.cast_ofNat_Int]
          try simp (disch := omega) only [pk_us, pk_un, va_up_self, va_up_ne, nI_add, pk_mul, nI_clamp, vp_inT, nI_ltI, nI_leI, nI_eqI, pk_sub, true_and, and_true]
          refine hK _ _ _ _ ?_
          refine rz_blk' [(.goto (-101), 3, 0, 0)] (by decide +kernel) (Nat.le_refl _) (Nat.le_refl _) (fun K R hK hR => ?_)
          simp only [↓rx_goto, ↓rx_nil, rz_set, rz_nol, rz_clr, List.set_cons_zero, List.set_cons_succ, rz_tr, Nat.reduceAdd, Int.reduceAdd, Int.reduceToNat, Int.reduceSub, Int.reduceNeg, Int.cast_ofNat_Int]
          try simp (disch := omega) only [pk_us, pk_un, va_up_self, va_up_ne, nI_add, pk_mul, nI_clamp, vp_inT, nI_ltI, nI_leI, nI_eqI, pk_sub, true_and, and_true]
          refine hK _ _ _ _ ?_
          refine ih (i + 1) b _ (by omega) (fun hb2 => ?_) (fun hb2 k hk hki => ?_)
          · have := of_decide_eq_true (hb.symm.trans hb2)
            rw [← this]; exact List.getElem_mem _
          · by_cases c : k = i
            · subst c; exact of_decide_eq_false (hb.symm.trans hb2)
            · exact hb0 rfl k hk (by omega)
        refine rz_blk' [(.iload 8, 2, 0, 0), (.aload_n 0, 1, 0, 0), (.getfield 229, 3, 10, 51), (.if_icmp .ge 98, 3, 0, 0)] (by decide +kernel) (Nat.le_refl _) (Nat.le_refl _) (fun K R hK hR => ?_)
        simp only [↓rx_aload_n0, ↓rx_getfield, ↓rx_if_icmp_ge, ↓rx_iload, ↓rx_nil, ↓ry_i2, ↓ry_li0s, ↓ry_li0z, ↓ry_lr0s, ↓ry_lr0z, ↓ry_obu, ↓ry_r1, ↓re_F51, ↓re_ob, n1, y1, y2, rz_set, rz_nol, rz_clr, List.set_cons_zero, List.set_cons_succ, rz_tr, Nat.reduceAdd, Int.reduceAdd, Int.reduceToNat, Int.reduceSub, Int.reduceNeg, Int.cast_ofNat_Int]
        try simp (disch := omega) only [n1, y1, y2, pk_us, pk_un, va_up_self, va_up_ne, nI_add, pk_mul, nI_clamp, vp_inT, nI_ltI, nI_leI, nI_eqI, pk_sub, true_and, and_true]
        refine ⟨fun q13 => by omega, fun q13 => hK _ _ _ _ ?_⟩
        refine rz_blk' [(.iload 7, 2, 0, 0), (.ifCond .ne 93, 3, 0, 0)] (by decide +kernel) (Nat.le_refl _) (Nat.le_refl _) (fun K R hK hR => ?_)
        simp only [↓rx_ifCond_ne, ↓rx_iload, ↓rx_nil, ↓ry_i1, ↓ry_li0s, ↓ry_li0z, n1, y1, y2, rz_set, rz_nol, rz_clr, List.set_cons_zero, List.set_cons_succ, rz_tr, Nat.reduceAdd, Int.reduceAdd, Int.reduceToNat, Int.reduceSub, Int.reduceNeg, Int.cast_ofNat_Int]
        try simp (disch := omega) only [n1, y1, y2, pk_us, pk_un, va_up_self, va_up_ne, nI_add, pk_mul, nI_clamp, vp_inT, nI_ltI, nI_leI, nI_eqI, pk_sub, true_and, and_true]
        refine ⟨fun q14 => absurd rfl q14, fun q14 => hK _ _ _ _ ?_⟩
        refine rz_blk' [(.aload_n 0, 1, 0, 0), (.getfield 141, 3, 10, 55), (.iload 8, 2, 0, 0), (.iaload, 1, 0, 0), (.iload_n 1, 1, 0, 0), (.if_icmp .ne 19, 3, 0, 0)] (by decide +kernel) (Nat.le_refl _) (Nat.le_refl _) (fun K R hK hR => ?_)
        simp only [↓rx_aload_n0, ↓rx_getfield, ↓rx_iaload, ↓rx_if_icmp_ne, ↓rx_iload, ↓rx_iload_n1, ↓rx_nil, ↓ry_i2, ↓ry_iau, ↓ry_li0s, ↓ry_li0z, ↓ry_lr0s, ↓ry_lr0z, ↓ry_obu, ↓ry_r1, ↓ry_ri, true_and, re_a55, ↓re_F55, ↓re_i55, ↓re_ob, n1, y1, y2, rz_set, rz_nol, rz_clr, List.set_cons_zero, List.set_cons_succ, rz_tr, Nat.reduceAdd, Int.reduceAdd, Int.reduceToNat, Int.reduceSub, Int.reduceNeg, Int.cast_ofNat_Int]
        try simp (disch := omega) only [n1, y1, y2, pk_us, pk_un, va_up_self, va_up_ne, nI_add, pk_mul, nI_clamp, vp_inT, nI_ltI, nI_leI, nI_eqI, pk_sub, true_and, and_true]
        refine ⟨fun q15 => hK _ _ _ _ ?_, fun q15 => hK _ _ _ _ ?_⟩
        · -- 153 taken
          refine rz_blk' [(.iconst 0, 1, 0, 0), (.istore 7, 2, 0, 0)] (by decide +kernel) (Nat.le_refl _) (Nat.le_refl _) (fun K R hK hR => ?_)
          simp only [rw_c0, ↓rx_iconst, ↓rx_istore, ↓rx_nil, ↓ry_i1, n1, y1, y2, rz_set, rz_nol, rz_clr, List.set_cons_zero, List.set_cons_succ, rz_tr, Nat.reduceAdd, Int.reduceAdd, Int.reduceToNat, Int.reduceSub, Int.reduceNeg, Int.cast_ofNat_Int]
          try simp (disch := omega) only [n1, y1, y2, pk_us, pk_un, va_up_self, va_up_ne, nI_add, pk_mul, nI_clamp, vp_inT, nI_ltI, nI_leI, nI_eqI, pk_sub, true_and, and_true]
          refine hK _ _ _ _ ?_
          refine rz_blk' [(.iconst 0, 1, 0, 0), (.istore 9, 2, 0, 0)] (by decide +kernel) (Nat.le_refl _) (Nat.le_refl _) (fun K R hK hR => ?_)
          simp only [rw_c0, ↓rx_iconst, ↓rx_istore, ↓rx_nil, ↓ry_i1, n1, y1, y2, rz_set, rz_nol, rz_clr, List.set_cons_zero, List.set_cons_succ, rz_tr, Nat.reduceAdd, Int.reduceAdd, Int.reduceToNat, Int.reduceSub, Int.reduceNeg, Int.cast_ofNat_Int]
          try simp (disch := omega) only [n1, y1, y2, pk_us, pk_un, va_up_self, va_up_ne, nI_add, pk_mul, nI_clamp, vp_inT, nI_ltI, nI_leI, nI_eqI, pk_sub, true_and, and_true]
          refine hK _ _ _ _ ?_
          first
            | exact il i hiN hx S 0 true (Nat.zero_add _) ⟨fun _ => ⟨by assumption, by assumption, fun k hk => absurd hk (Nat.not_lt_zero _)⟩, fun _ => rfl⟩
            | exact il i hiN hx S 0 false (Nat.zero_add _) ⟨fun q => by (cases q), fun ⟨c1, c2, _⟩ => absurd c1 (by assumption)⟩
            | exact il i hiN hx S 0 false (Nat.zero_add _) ⟨fun q => by (cases q), fun ⟨c1, c2, _⟩ => absurd c2 (by assumption)⟩
        · -- 153 not taken
          refine rz_blk' [(.aload_n 0, 1, 0, 0), (.getfield 144, 3, 10, 56), (.iload 8, 2, 0, 0), (.iaload, 1, 0, 0), (.iload 5, 2, 0, 0), (.if_icmp .ne 7, 3, 0, 0)] (by decide +kernel) (Nat.le_refl _) (Nat.le_refl _) (fun K R hK hR => ?_)
          simp only [↓rx_aload_n0, ↓rx_getfield, ↓rx_iaload, ↓rx_if_icmp_ne, ↓rx_iload, ↓rx_nil, ↓ry_i2, ↓ry_iau, ↓ry_li0s, ↓ry_li0z, ↓ry_lr0s, ↓ry_lr0z, ↓ry_obu, ↓ry_r1, ↓ry_ri, true_and, re_a56, ↓re_F56, ↓re_i56, ↓re_ob, n1, y1, y2, rz_set, rz_nol, rz_clr, List.set_cons_zero, List.set_cons_succ, rz_tr, Nat.reduceAdd, Int.reduceAdd, Int.reduceToNat, Int.reduceSub, Int.reduceNeg, Int.cast_ofNat_Int]
          try simp (disch := omega) only [n1, y1, y2, pk_us, pk_un, va_up_self, va_up_ne, nI_add, pk_mul, nI_clamp, vp_inT, nI_ltI, nI_leI, nI_eqI, pk_sub, true_and, and_true]
          refine ⟨fun q16 => hK _ _ _ _ ?_, fun q16 => hK _ _ _ _ ?_⟩
          · -- 165 taken
            refine rz_blk' [(.iconst 0, 1, 0, 0), (.istore 7, 2, 0, 0)] (by decide +kernel) (Nat.le_refl _) (Nat.le_refl _) (fun K R hK hR => ?_)
            simp only [rw_c0, ↓rx_iconst, ↓rx_istore, ↓rx_nil, ↓ry_i1, n1, y1, y2, rz_set, rz_nol, rz_clr, List.set_cons_zero, List.set_cons_succ, rz_tr, Nat.reduceAdd, Int.reduceAdd, Int.reduceToNat, Int.reduceSub, Int.reduceNeg, Int.cast_ofNat_Int]
            try simp (disch := omega) only [n1, y1, y2, pk_us, pk_un, va_up_self, va_up_ne, nI_add, pk_mul, nI_clamp, vp_inT, nI_ltI, nI_leI, nI_eqI, pk_sub, true_and, and_true]
            refine hK _ _ _ _ ?_
            refine rz_blk' [(.iconst 0, 1, 0, 0), (.istore 9, 2, 0, 0)] (by decide +kernel) (Nat.le_refl _) (Nat.le_refl _) (fun K R hK hR => ?_)
            simp only [rw_c0, ↓rx_iconst, ↓rx_istore, ↓rx_nil, ↓ry_i1, n1, y1, y2, rz_set, rz_nol, rz_clr, List.set_cons_zero, List.set_cons_succ, rz_tr, Nat.reduceAdd, Int.reduceAdd, Int.reduceToNat, Int.reduceSub, Int.reduceNeg, Int.cast_ofNat_Int]
            try simp (disch := omega) only [n1, y1, y2, pk_us, pk_un, va_up_self, va_up_ne, nI_add, pk_mul, nI_clamp, vp_inT, nI_ltI, nI_leI, nI_eqI, pk_sub, true_and, and_true]
            refine hK _ _ _ _ ?_
            first
              | exact il i hiN hx S 0 true (Nat.zero_add _) ⟨fun _ => ⟨by assumption, by assumption, fun k hk => absurd hk (Nat.not_lt_zero _)⟩, fun _ => rfl⟩
              | exact il i hiN hx S 0 false (Nat.zero_add _) ⟨fun q => by (cases q), fun ⟨c1, c2, _⟩ => absurd c1 (by assumption)⟩
              | exact il i hiN hx S 0 false (Nat.zero_add _) ⟨fun q => by (cases q), fun ⟨c1, c2, _⟩ => absurd c2 (by assumption)⟩
          · -- 165 not taken
            refine rz_blk' [(.iconst 1, 1, 0, 0), (.goto 4, 3, 0, 0)] (by decide +kernel) (Nat.le_refl _) (Nat.le_refl _) (fun K R hK hR => ?_)
            simp only [rw_c1, ↓rx_goto, ↓rx_iconst, ↓rx_nil, n1, y1, y2, rz_set, rz_nol, rz_clr, List.set_cons_zero, List.set_cons_succ, rz_tr, Nat.reduceAdd, Int.reduceAdd, Int.reduceToNat, Int.reduceSub, Int.reduceNeg, Int.cast_ofNat_Int]
            try simp (disch := omega) only [n1, y1, y2, pk_us, pk_un, va_up_self, va_up_ne, nI_add, pk_mul, nI_clamp, vp_inT, nI_ltI, nI_leI, nI_eqI, pk_sub, true_and, and_true]
            refine hK _ _ _ _ ?_
            refine rz_blk' [(.istore 7, 2, 0, 0)] (by decide +kernel) (Nat.le_refl _) (Nat.le_refl _) (fun K R hK hR => ?_)
            simp only [↓rx_istore, ↓rx_nil, ↓ry_i1, n1, y1, y2, rz_set, rz_nol, rz_clr, List.set_cons_zero, List.set_cons_succ, rz_tr, Nat.reduceAdd, Int.reduceAdd, Int.reduceToNat, Int.reduceSub, Int.reduceNeg, Int.cast_ofNat_Int]
            try simp (disch := omega) only [n1, y1, y2, pk_us, pk_un, va_up_self, va_up_ne, nI_add, pk_mul, nI_clamp, vp_inT, nI_ltI, nI_leI, nI_eqI, pk_sub, true_and, and_true]
            refine hK _ _ _ _ ?_
            refine rz_blk' [(.iconst 0, 1, 0, 0), (.istore 9, 2, 0, 0)] (by decide +kernel) (Nat.le_refl _) (Nat.le_refl _) (fun K R hK hR => ?_)
            simp only [rw_c0, ↓rx_iconst, ↓rx_istore, ↓rx_nil, ↓ry_i1, n1, y1, y2, rz_set, rz_nol, rz_clr, List.set_cons_zero, List.set_cons_succ, rz_tr, Nat.reduceAdd, Int.reduceAdd, Int.reduceToNat, Int.reduceSub, Int.reduceNeg, Int.cast_ofNat_Int]
            try simp (disch := omega) only [n1, y1, y2, pk_us, pk_un, va_up_self, va_up_ne, nI_add, pk_mul, nI_clamp, vp_inT, nI_ltI, nI_leI, nI_eqI, pk_sub, true_and, and_true]
            refine hK _ _ _ _ ?_
            first
              | exact il i hiN hx S 0 true (Nat.zero_add _) ⟨fun _ => ⟨by assumption, by assumption, fun k hk => absurd hk (Nat.not_lt_zero _)⟩, fun _ => rfl⟩
              | exact il i hiN hx S 0 false (Nat.zero_add _) ⟨fun q => by (cases q), fun ⟨c1, c2, _⟩ => absurd c1 (by assumption)⟩
              | exact il i hiN hx S 0 false (Nat.zero_add _) ⟨fun q => by (cases q), fun ⟨c1, c2, _⟩ => absurd c2 (by assumption)⟩
  have cl : ∀ (j i : Nat), i + j = S → rz_T w d 0 0 m_Mod_addWay 0 0 34 [some (.ref a), some (.int (nI st)), some (.int (nI way)), some (.int o), some (.int (nI v.length)), some (.int (nI S)), some (.int (nI (40 * N.length))), some (.int (nI i)), none, none] [] (re_put G a I (va_up A 57 (cp (A 57) (40 * N.length) (wsg (u ++ v)) 0 i))) Q := by
    intro j
    induction j with
    | zero =>
      intro i hij
      have hi : i = S := by omega
      rw [hi, hB]
      refine rz_blk' [(.iload 7, 2, 0, 0), (.iload 5, 2, 0, 0), (.if_icmp .ge 87, 3, 0, 0)] (by decide +kernel) (Nat.le_refl _) (Nat.le_refl _) (fun K R hK hR => ?_)
      simp only [↓rx_if_icmp_ge, ↓rx_iload, ↓rx_nil, ↓ry_i2, ↓ry_li0s, ↓ry_li0z, rz_set, rz_nol, rz_clr, List.set_cons_zero, List.set_cons_succ, rz_tr, Nat.reduceAdd, Int.reduceAdd, Int.reduceToNat, Int.reduceSub, Int.reduceNeg, Int.cast_ofNat_Int]
      try simp (disch := omega) only [pk_us, pk_un, va_up_self, va_up_ne, nI_add, pk_mul, nI_clamp, vp_inT, nI_ltI, nI_leI, nI_eqI, pk_sub, true_and, and_true]
      refine ⟨fun q17 => hK _ _ _ _ ?_, fun q17 => by omega⟩
      refine rz_blk' [(.iconst 0, 1, 0, 0), (.istore 7, 2, 0, 0)] (by decide +kernel) (Nat.le_refl _) (Nat.le_refl _) (fun K R hK hR => ?_)
      simp only [rw_c0, ↓rx_iconst, ↓rx_istore, ↓rx_nil, ↓ry_i1, rz_set, rz_nol, rz_clr, List.set_cons_zero, List.set_cons_succ, rz_tr, Nat.reduceAdd, Int.reduceAdd, Int.reduceToNat, Int.reduceSub, Int.reduceNeg, Int.cast_ofNat_Int]
      try simp (disch := omega) only [pk_us, pk_un, va_up_self, va_up_ne, nI_add, pk_mul, nI_clamp, vp_inT, nI_ltI, nI_leI, nI_eqI, pk_sub, true_and, and_true]
      refine hK _ _ _ _ ?_
      refine rz_blk' [(.iconst 0, 1, 0, 0), (.istore 8, 2, 0, 0)] (by decide +kernel) (Nat.le_refl _) (Nat.le_refl _) (fun K R hK hR => ?_)
      simp only [rw_c0, ↓rx_iconst, ↓rx_istore, ↓rx_nil, ↓ry_i1, rz_set, rz_nol, rz_clr, List.set_cons_zero, List.set_cons_succ, rz_tr, Nat.reduceAdd, Int.reduceAdd, Int.reduceToNat, Int.reduceSub, Int.reduceNeg, Int.cast_ofNat_Int]
      try simp (disch := omega) only [pk_us, pk_un, va_up_self, va_up_ne, nI_add, pk_mul, nI_clamp, vp_inT, nI_ltI, nI_leI, nI_eqI, pk_sub, true_and, and_true]
      refine hK _ _ _ _ ?_
      exact sl N.length 0 false _ (Nat.zero_add _) (fun q => by cases q) (fun _ k _ hk => absurd hk (Nat.not_lt_zero _))
    | succ j ih =>
      intro i hij
      have hiF : i < (u ++ v).length := by omega
      have ih := ih (i + 1) (by omega)
      rw [← cp_s, Nat.zero_add, wsg_at hiF] at ih
      by_cases cu : i < u.length
      · have e1 : A 54 (40 * way + i) = nI (u ++ v)[i] := by rw [u3 i cu, List.getElem_append_left cu]
        refine rz_blk' [(.iload 7, 2, 0, 0), (.iload 5, 2, 0, 0), (.if_icmp .ge 87, 3, 0, 0)] (by decide +kernel) (Nat.le_refl _) (Nat.le_refl _) (fun K R hK hR => ?_)
        simp only [↓rx_if_icmp_ge, ↓rx_iload, ↓rx_nil, ↓ry_i2, ↓ry_li0s, ↓ry_li0z, u2, e1, re_a57, ↓re_i57, rz_set, rz_nol, rz_clr, List.set_cons_zero, List.set_cons_succ, rz_tr, Nat.reduceAdd, Int.reduceAdd, Int.reduceToNat, Int.reduceSub, Int.reduceNeg, Int.cast_ofNat_Int]
        try simp (disch := omega) only [u2, e1, pk_us, pk_un, va_up_self, va_up_ne, nI_add, pk_mul, nI_clamp, vp_inT, nI_ltI, nI_leI, nI_eqI, pk_sub, true_and, and_true]
        refine ⟨fun q18 => by omega, fun q18 => hK _ _ _ _ ?_⟩
        refine rz_blk' [(.aload_n 0, 1, 0, 0), (.getfield 147, 3, 10, 57), (.iload 6, 2, 0, 0), (.iload 7, 2, 0, 0), (.iadd, 1, 0, 0), (.iload 7, 2, 0, 0), (.aload_n 0, 1, 0, 0), (.getfield 135, 3, 10, 53), (.iload_n 2, 1, 0, 0), (.iaload, 1, 0, 0), (.if_icmp .ge 18, 3, 0, 0)] (by decide +kernel) (Nat.le_refl _) (Nat.le_refl _) (fun K R hK hR => ?_)
        simp only [↓rx_aload_n0, ↓rx_getfield, ↓rx_iadd, ↓rx_iaload, ↓rx_if_icmp_ge, ↓rx_iload, ↓rx_iload_n2, ↓rx_nil, ↓ry_i2, ↓ry_iau, ↓ry_li0s, ↓ry_li0z, ↓ry_lr0s, ↓ry_lr0z, ↓ry_obu, ↓ry_r1, ↓ry_ri, true_and, re_a53, re_a57, ↓re_F53, ↓re_F57, ↓re_i53, ↓re_i57, ↓re_ob, u2, e1, re_a57, ↓re_i57, rz_set, rz_nol, rz_clr, List.set_cons_zero, List.set_cons_succ, rz_tr, Nat.reduceAdd, Int.reduceAdd, Int.reduceToNat, Int.reduceSub, Int.reduceNeg, Int.cast_ofNat_Int]
        try simp (disch := omega) only [u2, e1, pk_us, pk_un, va_up_self, va_up_ne, nI_add, pk_mul, nI_clamp, vp_inT, nI_ltI, nI_leI, nI_eqI, pk_sub, true_and, and_true]
        refine ⟨fun q19 => by omega, fun q19 => hK _ _ _ _ ?_⟩
        refine rz_blk' [(.aload_n 0, 1, 0, 0), (.getfield 138, 3, 10, 54), (.bipush 40, 2, 0, 0), (.iload_n 2, 1, 0, 0), (.imul, 1, 0, 0), (.iload 7, 2, 0, 0), (.iadd, 1, 0, 0), (.iaload, 1, 0, 0), (.goto 45, 3, 0, 0)] (by decide +kernel) (Nat.le_refl _) (Nat.le_refl _) (fun K R hK hR => ?_)
        simp only [rw_b40, ↓rx_aload_n0, ↓rx_bipush, ↓rx_getfield, ↓rx_goto, ↓rx_iadd, ↓rx_iaload, ↓rx_iload, ↓rx_iload_n2, ↓rx_imul, ↓rx_nil, ↓ry_i2, ↓ry_iau, ↓ry_li0s, ↓ry_li0z, ↓ry_lr0s, ↓ry_lr0z, ↓ry_obu, ↓ry_r1, ↓ry_ri, true_and, re_a54, ↓re_F54, ↓re_i54, ↓re_ob, u2, e1, re_a57, ↓re_i57, rz_set, rz_nol, rz_clr, List.set_cons_zero, List.set_cons_succ, rz_tr, Nat.reduceAdd, Int.reduceAdd, Int.reduceToNat, Int.reduceSub, Int.reduceNeg, Int.cast_ofNat_Int]
        try simp (disch := omega) only [u2, e1, pk_us, pk_un, va_up_self, va_up_ne, nI_add, pk_mul, nI_clamp, vp_inT, nI_ltI, nI_leI, nI_eqI, pk_sub, true_and, and_true]
        refine hK _ _ _ _ ?_
        refine rz_blk' [(.iastore, 1, 0, 0)] (by decide +kernel) (Nat.le_refl _) (Nat.le_refl _) (fun K R hK hR => ?_)
        simp only [↓rx_iastore, ↓rx_nil, ↓ry_iau, ↓ry_rii, true_and, u2, e1, re_a57, ↓re_i57, rz_set, rz_nol, rz_clr, List.set_cons_zero, List.set_cons_succ, rz_tr, Nat.reduceAdd, Int.reduceAdd, Int.reduceToNat, Int.reduceSub, Int.reduceNeg, Int.cast_ofNat_Int]
        try simp (disch := omega) only [u2, e1, pk_us, pk_un, va_up_self, va_up_ne, nI_add, pk_mul, nI_clamp, vp_inT, nI_ltI, nI_leI, nI_eqI, pk_sub, true_and, and_true]
        refine hK _ _ _ _ ?_
        refine rz_blk' [(.iinc 7 1, 3, 0, 0)] (by decide +kernel) (Nat.le_refl _) (Nat.le_refl _) (fun K R hK hR => ?_)
        simp only [rw_c1, ↓rx_iinc, ↓rx_nil, ↓ry_li0s, ↓ry_li0z, u2, e1, re_a57, ↓re_i57, rz_set, rz_nol, rz_clr, List.set_cons_zero, List.set_cons_succ, rz_tr, Nat.reduceAdd, Int.reduceAdd, Int.reduceToNat, Int.reduceSub, Int.reduceNeg, Int.cast_ofNat_Int]
        try simp (disch := omega) only [u2, e1, pk_us, pk_un, va_up_self, va_up_ne, nI_add, pk_mul, nI_clamp, vp_inT, nI_ltI, nI_leI, nI_eqI, pk_sub, true_and, and_true]
        refine hK _ _ _ _ ?_
        refine rz_blk' [(.goto (-88), 3, 0, 0)] (by decide +kernel) (Nat.le_refl _) (Nat.le_refl _) (fun K R hK hR => ?_)
        simp only [↓rx_goto, ↓rx_nil, u2, e1, re_a57, ↓re_i57, rz_set, rz_nol, rz_clr, List.set_cons_zero, List.set_cons_succ, rz_tr, Nat.reduceAdd, Int.reduceAdd, Int.reduceToNat, Int.reduceSub, Int.reduceNeg, Int.cast_ofNat_Int]
        try simp (disch := omega) only [u2, e1, pk_us, pk_un, va_up_self, va_up_ne, nI_add, pk_mul, nI_clamp, vp_inT, nI_ltI, nI_leI, nI_eqI, pk_sub, true_and, and_true]
        refine hK _ _ _ _ ?_
        rw [re_vv]
        exact ih
      · have hiv : i - u.length < v.length := by omega
        rcases ho with ⟨p, hp, rfl, hsg⟩ | ⟨q, hq, rfl, hsg⟩
        · have e1 : A 20 (p + i - u.length) = nI (u ++ v)[i] := by
            rw [show p + i - u.length = p + (i - u.length) by omega, hsg _ hiv, List.getElem_append_right (by omega)]
          refine rz_blk' [(.iload 7, 2, 0, 0), (.iload 5, 2, 0, 0), (.if_icmp .ge 87, 3, 0, 0)] (by decide +kernel) (Nat.le_refl _) (Nat.le_refl _) (fun K R hK hR => ?_)
          simp only [↓rx_if_icmp_ge, ↓rx_iload, ↓rx_nil, ↓ry_i2, ↓ry_li0s, ↓ry_li0z, u2, e1, re_a57, ↓re_i57, rz_set, rz_nol, rz_clr, List.set_cons_zero, List.set_cons_succ, rz_tr, Nat.reduceAdd, Int.reduceAdd, Int.reduceToNat, Int.reduceSub, Int.reduceNeg, Int.cast_ofNat_Int]
          try simp (disch := omega) only [u2, e1, pk_us, pk_un, va_up_self, va_up_ne, nI_add, pk_mul, nI_clamp, vp_inT, nI_ltI, nI_leI, nI_eqI, pk_sub, true_and, and_true]
          refine ⟨fun q20 => by omega, fun q20 => hK _ _ _ _ ?_⟩
          refine rz_blk' [(.aload_n 0, 1, 0, 0), (.getfield 147, 3, 10, 57), (.iload 6, 2, 0, 0), (.iload 7, 2, 0, 0), (.iadd, 1, 0, 0), (.iload 7, 2, 0, 0), (.aload_n 0, 1, 0, 0), (.getfield 135, 3, 10, 53), (.iload_n 2, 1, 0, 0), (.iaload, 1, 0, 0), (.if_icmp .ge 18, 3, 0, 0)] (by decide +kernel) (Nat.le_refl _) (Nat.le_refl _) (fun K R hK hR => ?_)
          simp only [↓rx_aload_n0, ↓rx_getfield, ↓rx_iadd, ↓rx_iaload, ↓rx_if_icmp_ge, ↓rx_iload, ↓rx_iload_n2, ↓rx_nil, ↓ry_i2, ↓ry_iau, ↓ry_li0s, ↓ry_li0z, ↓ry_lr0s, ↓ry_lr0z, ↓ry_obu, ↓ry_r1, ↓ry_ri, true_and, re_a53, re_a57, ↓re_F53, ↓re_F57, ↓re_i53, ↓re_i57, ↓re_ob, u2, e1, re_a57, ↓re_i57, rz_set, rz_nol, rz_clr, List.set_cons_zero, List.set_cons_succ, rz_tr, Nat.reduceAdd, Int.reduceAdd, Int.reduceToNat, Int.reduceSub, Int.reduceNeg, Int.cast_ofNat_Int]
          try simp (disch := omega) only [u2, e1, pk_us, pk_un, va_up_self, va_up_ne, nI_add, pk_mul, nI_clamp, vp_inT, nI_ltI, nI_leI, nI_eqI, pk_sub, true_and, and_true]
          refine ⟨fun q21 => hK _ _ _ _ ?_, fun q21 => by omega⟩
          refine rz_blk' [(.iload_n 3, 1, 0, 0), (.ifCond .ge 25, 3, 0, 0)] (by decide +kernel) (Nat.le_refl _) (Nat.le_refl _) (fun K R hK hR => ?_)
          simp only [↓rx_ifCond_ge, ↓rx_iload_n3, ↓rx_nil, ↓ry_i1, ↓ry_li0s, ↓ry_li0z, u2, e1, re_a57, ↓re_i57, rz_set, rz_nol, rz_clr, List.set_cons_zero, List.set_cons_succ, rz_tr, Nat.reduceAdd, Int.reduceAdd, Int.reduceToNat, Int.reduceSub, Int.reduceNeg, Int.cast_ofNat_Int]
          try simp (disch := omega) only [u2, e1, pk_us, pk_un, va_up_self, va_up_ne, nI_add, pk_mul, nI_clamp, vp_inT, nI_ltI, nI_leI, nI_eqI, pk_sub, true_and, and_true]
          refine ⟨fun q22 => hK _ _ _ _ ?_, fun q22 => absurd (nI_pos' (by omega)) q22⟩
          refine rz_blk' [(.aload_n 0, 1, 0, 0), (.getfield 65, 3, 10, 20), (.iload_n 3, 1, 0, 0), (.iload 7, 2, 0, 0), (.iadd, 1, 0, 0), (.aload_n 0, 1, 0, 0), (.getfield 135, 3, 10, 53), (.iload_n 2, 1, 0, 0), (.iaload, 1, 0, 0), (.isub, 1, 0, 0), (.iaload, 1, 0, 0), (.iastore, 1, 0, 0)] (by decide +kernel) (Nat.le_refl _) (Nat.le_refl _) (fun K R hK hR => ?_)
          simp only [↓rx_aload_n0, ↓rx_getfield, ↓rx_iadd, ↓rx_iaload, ↓rx_iastore, ↓rx_iload, ↓rx_iload_n2, ↓rx_iload_n3, ↓rx_isub, ↓rx_nil, ↓ry_i2, ↓ry_iau, ↓ry_li0s, ↓ry_li0z, ↓ry_lr0s, ↓ry_lr0z, ↓ry_obu, ↓ry_r1, ↓ry_ri, ↓ry_rii, true_and, re_a20, re_a53, ↓re_F20, ↓re_F53, ↓re_i20, ↓re_i53, ↓re_ob, u2, e1, re_a57, ↓re_i57, rz_set, rz_nol, rz_clr, List.set_cons_zero, List.set_cons_succ, rz_tr, Nat.reduceAdd, Int.reduceAdd, Int.reduceToNat, Int.reduceSub, Int.reduceNeg, Int.cast_ofNat_Int]
          try simp (disch := omega) only [u2, e1, pk_us, pk_un, va_up_self, va_up_ne, nI_add, pk_mul, nI_clamp, vp_inT, nI_ltI, nI_leI, nI_eqI, pk_sub, true_and, and_true]
          refine hK _ _ _ _ ?_
          refine rz_blk' [(.iinc 7 1, 3, 0, 0)] (by decide +kernel) (Nat.le_refl _) (Nat.le_refl _) (fun K R hK hR => ?_)
          simp only [rw_c1, ↓rx_iinc, ↓rx_nil, ↓ry_li0s, ↓ry_li0z, u2, e1, re_a57, ↓re_i57, rz_set, rz_nol, rz_clr, List.set_cons_zero, List.set_cons_succ, rz_tr, Nat.reduceAdd, Int.reduceAdd, Int.reduceToNat, Int.reduceSub, Int.reduceNeg, Int.cast_ofNat_Int]
          try simp (disch := omega) only [u2, e1, pk_us, pk_un, va_up_self, va_up_ne, nI_add, pk_mul, nI_clamp, vp_inT, nI_ltI, nI_leI, nI_eqI, pk_sub, true_and, and_true]
          refine hK _ _ _ _ ?_
          refine rz_blk' [(.goto (-88), 3, 0, 0)] (by decide +kernel) (Nat.le_refl _) (Nat.le_refl _) (fun K R hK hR => ?_)
          simp only [↓rx_goto, ↓rx_nil, u2, e1, re_a57, ↓re_i57, rz_set, rz_nol, rz_clr, List.set_cons_zero, List.set_cons_succ, rz_tr, Nat.reduceAdd, Int.reduceAdd, Int.reduceToNat, Int.reduceSub, Int.reduceNeg, Int.cast_ofNat_Int]
          try simp (disch := omega) only [u2, e1, pk_us, pk_un, va_up_self, va_up_ne, nI_add, pk_mul, nI_clamp, vp_inT, nI_ltI, nI_leI, nI_eqI, pk_sub, true_and, and_true]
          refine hK _ _ _ _ ?_
          rw [re_vv]
          exact ih
        · have e1 : A 22 (32 * q + i - u.length) = nI (u ++ v)[i] := by
            rw [show 32 * q + i - u.length = 32 * q + (i - u.length) by omega, hsg _ hiv, List.getElem_append_right (by omega)]
          refine rz_blk' [(.iload 7, 2, 0, 0), (.iload 5, 2, 0, 0), (.if_icmp .ge 87, 3, 0, 0)] (by decide +kernel) (Nat.le_refl _) (Nat.le_refl _) (fun K R hK hR => ?_)
          simp only [↓rx_if_icmp_ge, ↓rx_iload, ↓rx_nil, ↓ry_i2, ↓ry_li0s, ↓ry_li0z, u2, e1, re_a57, ↓re_i57, rz_set, rz_nol, rz_clr, List.set_cons_zero, List.set_cons_succ, rz_tr, Nat.reduceAdd, Int.reduceAdd, Int.reduceToNat, Int.reduceSub, Int.reduceNeg, Int.cast_ofNat_Int]
          try simp (disch := omega) only [u2, e1, re_ng, pk_us, pk_un, va_up_self, va_up_ne, nI_add, pk_mul, nI_clamp, vp_inT, nI_ltI, nI_leI, nI_eqI, pk_sub, true_and, and_true]
          refine ⟨fun q23 => by omega, fun q23 => hK _ _ _ _ ?_⟩
          refine rz_blk' [(.aload_n 0, 1, 0, 0), (.getfield 147, 3, 10, 57), (.iload 6, 2, 0, 0), (.iload 7, 2, 0, 0), (.iadd, 1, 0, 0), (.iload 7, 2, 0, 0), (.aload_n 0, 1, 0, 0), (.getfield 135, 3, 10, 53), (.iload_n 2, 1, 0, 0), (.iaload, 1, 0, 0), (.if_icmp .ge 18, 3, 0, 0)] (by decide +kernel) (Nat.le_refl _) (Nat.le_refl _) (fun K R hK hR => ?_)
          simp only [↓rx_aload_n0, ↓rx_getfield, ↓rx_iadd, ↓rx_iaload, ↓rx_if_icmp_ge, ↓rx_iload, ↓rx_iload_n2, ↓rx_nil, ↓ry_i2, ↓ry_iau, ↓ry_li0s, ↓ry_li0z, ↓ry_lr0s, ↓ry_lr0z, ↓ry_obu, ↓ry_r1, ↓ry_ri, true_and, re_a53, re_a57, ↓re_F53, ↓re_F57, ↓re_i53, ↓re_i57, ↓re_ob, u2, e1, re_a57, ↓re_i57, rz_set, rz_nol, rz_clr, List.set_cons_zero, List.set_cons_succ, rz_tr, Nat.reduceAdd, Int.reduceAdd, Int.reduceToNat, Int.reduceSub, Int.reduceNeg, Int.cast_ofNat_Int]
          try simp (disch := omega) only [u2, e1, re_ng, pk_us, pk_un, va_up_self, va_up_ne, nI_add, pk_mul, nI_clamp, vp_inT, nI_ltI, nI_leI, nI_eqI, pk_sub, true_and, and_true]
          refine ⟨fun q24 => hK _ _ _ _ ?_, fun q24 => by omega⟩
          refine rz_blk' [(.iload_n 3, 1, 0, 0), (.ifCond .ge 25, 3, 0, 0)] (by decide +kernel) (Nat.le_refl _) (Nat.le_refl _) (fun K R hK hR => ?_)
          simp only [↓rx_ifCond_ge, ↓rx_iload_n3, ↓rx_nil, ↓ry_i1, ↓ry_li0s, ↓ry_li0z, u2, e1, re_a57, ↓re_i57, rz_set, rz_nol, rz_clr, List.set_cons_zero, List.set_cons_succ, rz_tr, Nat.reduceAdd, Int.reduceAdd, Int.reduceToNat, Int.reduceSub, Int.reduceNeg, Int.cast_ofNat_Int]
          try simp (disch := omega) only [u2, e1, re_ng, pk_us, pk_un, va_up_self, va_up_ne, nI_add, pk_mul, nI_clamp, vp_inT, nI_ltI, nI_leI, nI_eqI, pk_sub, true_and, and_true]
          refine ⟨fun q25 => absurd (re_ng0 q hq) (Int32.not_lt.mpr q25), fun q25 => hK _ _ _ _ ?_⟩
          refine rz_blk' [(.aload_n 0, 1, 0, 0), (.getfield 71, 3, 10, 22), (.iload_n 3, 1, 0, 0), (.ineg, 1, 0, 0), (.iconst 1, 1, 0, 0), (.isub, 1, 0, 0), (.iload 7, 2, 0, 0), (.iadd, 1, 0, 0), (.aload_n 0, 1, 0, 0), (.getfield 135, 3, 10, 53), (.iload_n 2, 1, 0, 0), (.iaload, 1, 0, 0), (.isub, 1, 0, 0), (.iaload, 1, 0, 0), (.goto 19, 3, 0, 0)] (by decide +kernel) (Nat.le_refl _) (Nat.le_refl _) (fun K R hK hR => ?_)
          simp only [rw_c1, ↓rx_aload_n0, ↓rx_getfield, ↓rx_goto, ↓rx_iadd, ↓rx_iaload, ↓rx_iconst, ↓rx_iload, ↓rx_iload_n2, ↓rx_iload_n3, ↓rx_ineg, ↓rx_isub, ↓rx_nil, ↓ry_i1, ↓ry_i2, ↓ry_iau, ↓ry_li0s, ↓ry_li0z, ↓ry_lr0s, ↓ry_lr0z, ↓ry_obu, ↓ry_r1, ↓ry_ri, true_and, re_a22, re_a53, ↓re_F22, ↓re_F53, ↓re_i22, ↓re_i53, ↓re_ob, u2, e1, re_a57, ↓re_i57, rz_set, rz_nol, rz_clr, List.set_cons_zero, List.set_cons_succ, rz_tr, Nat.reduceAdd, Int.reduceAdd, Int.reduceToNat, Int.reduceSub, Int.reduceNeg, Int.cast_ofNat_Int]
          try simp (disch := omega) only [u2, e1, re_ng, pk_us, pk_un, va_up_self, va_up_ne, nI_add, pk_mul, nI_clamp, vp_inT, nI_ltI, nI_leI, nI_eqI, pk_sub, true_and, and_true]
          refine hK _ _ _ _ ?_
          refine rz_blk' [(.iastore, 1, 0, 0)] (by decide +kernel) (Nat.le_refl _) (Nat.le_refl _) (fun K R hK hR => ?_)
          simp only [↓rx_iastore, ↓rx_nil, ↓ry_iau, ↓ry_rii, true_and, u2, e1, re_a57, ↓re_i57, rz_set, rz_nol, rz_clr, List.set_cons_zero, List.set_cons_succ, rz_tr, Nat.reduceAdd, Int.reduceAdd, Int.reduceToNat, Int.reduceSub, Int.reduceNeg, Int.cast_ofNat_Int]
          try simp (disch := omega) only [u2, e1, re_ng, pk_us, pk_un, va_up_self, va_up_ne, nI_add, pk_mul, nI_clamp, vp_inT, nI_ltI, nI_leI, nI_eqI, pk_sub, true_and, and_true]
          refine hK _ _ _ _ ?_
          refine rz_blk' [(.iinc 7 1, 3, 0, 0)] (by decide +kernel) (Nat.le_refl _) (Nat.le_refl _) (fun K R hK hR => ?_)
          simp only [rw_c1, ↓rx_iinc, ↓rx_nil, ↓ry_li0s, ↓ry_li0z, u2, e1, re_a57, ↓re_i57, rz_set, rz_nol, rz_clr, List.set_cons_zero, List.set_cons_succ, rz_tr, Nat.reduceAdd, Int.reduceAdd, Int.reduceToNat, Int.reduceSub, Int.reduceNeg, Int.cast_ofNat_Int]
          try simp (disch := omega) only [u2, e1, re_ng, pk_us, pk_un, va_up_self, va_up_ne, nI_add, pk_mul, nI_clamp, vp_inT, nI_ltI, nI_leI, nI_eqI, pk_sub, true_and, and_true]
          refine hK _ _ _ _ ?_
          refine rz_blk' [(.goto (-88), 3, 0, 0)] (by decide +kernel) (Nat.le_refl _) (Nat.le_refl _) (fun K R hK hR => ?_)
          simp only [↓rx_goto, ↓rx_nil, u2, e1, re_a57, ↓re_i57, rz_set, rz_nol, rz_clr, List.set_cons_zero, List.set_cons_succ, rz_tr, Nat.reduceAdd, Int.reduceAdd, Int.reduceToNat, Int.reduceSub, Int.reduceNeg, Int.cast_ofNat_Int]
          try simp (disch := omega) only [u2, e1, re_ng, pk_us, pk_un, va_up_self, va_up_ne, nI_add, pk_mul, nI_clamp, vp_inT, nI_ltI, nI_leI, nI_eqI, pk_sub, true_and, and_true]
          refine hK _ _ _ _ ?_
          rw [re_vv]
          exact ih
  refine rz_enter' [some (.ref a), some (.int (nI st)), some (.int (nI way)), some (.int o), some (.int (nI v.length)), none, none, none, none, none] (by decide +kernel) rfl rfl (Nat.le_of_ble_eq_true rfl) rfl ?_
  refine rz_blk' [(.aload_n 0, 1, 0, 0), (.getfield 229, 3, 10, 51), (.sipush 200, 3, 0, 0), (.if_icmp .le 4, 3, 0, 0)] (by decide +kernel) (Nat.le_refl _) (Nat.le_refl _) (fun K R hK hR => ?_)
  simp only [rw_s200, ↓rx_aload_n0, ↓rx_getfield, ↓rx_if_icmp_le, ↓rx_nil, ↓rx_sipush, ↓ry_i2, ↓ry_lr0s, ↓ry_lr0z, ↓ry_obu, ↓ry_r1, ↓re_F51, ↓re_ob, n1, u2, hSS, rz_set, rz_nol, rz_clr, List.set_cons_zero, List.set_cons_succ, rz_tr, Nat.reduceAdd, Int.reduceAdd, Int.reduceToNat, Int.reduceSub, Int.reduceNeg, Int.cast_ofNat_Int]
  try simp (disch := omega) only [n1, u2, hSS, pk_us, pk_un, va_up_self, va_up_ne, nI_add, pk_mul, nI_clamp, vp_inT, nI_ltI, nI_leI, nI_eqI, pk_sub, true_and, and_true]
  refine ⟨fun q26 => hK _ _ _ _ ?_, fun q26 => by omega⟩
  refine rz_blk' [(.aload_n 0, 1, 0, 0), (.getfield 135, 3, 10, 53), (.iload_n 2, 1, 0, 0), (.iaload, 1, 0, 0), (.iload 4, 2, 0, 0), (.iadd, 1, 0, 0), (.istore 5, 2, 0, 0)] (by decide +kernel) (Nat.le_refl _) (Nat.le_refl _) (fun K R hK hR => ?_)
  simp only [↓rx_aload_n0, ↓rx_getfield, ↓rx_iadd, ↓rx_iaload, ↓rx_iload, ↓rx_iload_n2, ↓rx_istore, ↓rx_nil, ↓ry_i1, ↓ry_i2, ↓ry_iau, ↓ry_li0s, ↓ry_li0z, ↓ry_lr0s, ↓ry_lr0z, ↓ry_obu, ↓ry_r1, ↓ry_ri, true_and, re_a53, ↓re_F53, ↓re_i53, ↓re_ob, n1, u2, hSS, rz_set, rz_nol, rz_clr, List.set_cons_zero, List.set_cons_succ, rz_tr, Nat.reduceAdd, Int.reduceAdd, Int.reduceToNat, Int.reduceSub, Int.reduceNeg, Int.cast_ofNat_Int]
  try simp (disch := omega) only [n1, u2, hSS, pk_us, pk_un, va_up_self, va_up_ne, nI_add, pk_mul, nI_clamp, vp_inT, nI_ltI, nI_leI, nI_eqI, pk_sub, true_and, and_true]
  refine hK _ _ _ _ ?_
  refine rz_blk' [(.bipush 40, 2, 0, 0), (.aload_n 0, 1, 0, 0), (.getfield 229, 3, 10, 51), (.imul, 1, 0, 0), (.istore 6, 2, 0, 0)] (by decide +kernel) (Nat.le_refl _) (Nat.le_refl _) (fun K R hK hR => ?_)
  simp only [rw_b40, ↓rx_aload_n0, ↓rx_bipush, ↓rx_getfield, ↓rx_imul, ↓rx_istore, ↓rx_nil, ↓ry_i1, ↓ry_i2, ↓ry_lr0s, ↓ry_lr0z, ↓ry_obu, ↓ry_r1, ↓re_F51, ↓re_ob, n1, u2, hSS, rz_set, rz_nol, rz_clr, List.set_cons_zero, List.set_cons_succ, rz_tr, Nat.reduceAdd, Int.reduceAdd, Int.reduceToNat, Int.reduceSub, Int.reduceNeg, Int.cast_ofNat_Int]
  try simp (disch := omega) only [n1, u2, hSS, pk_us, pk_un, va_up_self, va_up_ne, nI_add, pk_mul, nI_clamp, vp_inT, nI_ltI, nI_leI, nI_eqI, pk_sub, true_and, and_true]
  refine hK _ _ _ _ ?_
  refine rz_blk' [(.iconst 0, 1, 0, 0), (.istore 7, 2, 0, 0)] (by decide +kernel) (Nat.le_refl _) (Nat.le_refl _) (fun K R hK hR => ?_)
  simp only [rw_c0, ↓rx_iconst, ↓rx_istore, ↓rx_nil, ↓ry_i1, n1, u2, hSS, rz_set, rz_nol, rz_clr, List.set_cons_zero, List.set_cons_succ, rz_tr, Nat.reduceAdd, Int.reduceAdd, Int.reduceToNat, Int.reduceSub, Int.reduceNeg, Int.cast_ofNat_Int]
  try simp (disch := omega) only [n1, u2, hSS, pk_us, pk_un, va_up_self, va_up_ne, nI_add, pk_mul, nI_clamp, vp_inT, nI_ltI, nI_leI, nI_eqI, pk_sub, true_and, and_true]
  refine hK _ _ _ _ ?_
  have := cl S 0 (Nat.zero_add _)
  rw [cp_0, re_ve] at this
  exact this
