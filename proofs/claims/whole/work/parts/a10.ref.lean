/-! the reference: shorten, someOutputs -/
/-- what may be written from a state on, to an end -/
def xo (T : mv_T) (s : Nat) (o : List Nat) : Prop := ∃ v q x f, rn T s v q x ∧ T.2.2.1 q = some f ∧ o = x ++ f
theorem xo_f {T : mv_T} {s : Nat} {f : List Nat} (h : T.2.2.1 s = some f) : xo T s f := ⟨[], s, [], f, ⟨rfl, rfl⟩, h, rfl⟩
theorem xo_e {T : mv_T} {e : xe_T} {o : List Nat} (he : e ∈ T.2.1) (h : xo T e.2.2.1 o) : xo T e.1 (e.2.2.2 ++ o) := by
  obtain ⟨v, q, x, f, h1, h2, rfl⟩ := h
  exact ⟨e.2.1 :: v, q, e.2.2.2 ++ x, f, ⟨e, he, rfl, rfl, x, h1, rfl⟩, h2, by rw [List.append_assoc]⟩
theorem xo_ind {T : mv_T} {P : Nat → List Nat → Prop} (hf : ∀ s f, T.2.2.1 s = some f → P s f) (he : ∀ e ∈ T.2.1, ∀ o, P e.2.2.1 o → P e.1 (e.2.2.2 ++ o)) {s : Nat} {o : List Nat} (h : xo T s o) : P s o := by
  obtain ⟨v, q, x, f, h1, h2, rfl⟩ := h
  have key : ∀ (v : List Nat) (s : Nat) (x : List Nat), rn T s v q x → P s (x ++ f) := by
    intro v
    induction v with
    | nil =>
      rintro s x ⟨rfl, rfl⟩
      exact hf s f h2
    | cons l v ih =>
      rintro s x ⟨e, hm, rfl, -, o', hr, rfl⟩
      rw [List.append_assoc]
      exact he e hm _ (ih _ _ hr)
  exact key v s x h1
def cm_up (C : Nat → Option (List Nat)) (a : Nat) (w : List Nat) : Nat → Option (List Nat) := fun s => if s = a then some w else C s
theorem cm_us {C : Nat → Option (List Nat)} {a : Nat} {w : List Nat} : cm_up C a w a = some w := if_pos rfl
theorem cm_un {C : Nat → Option (List Nat)} {a s : Nat} {w : List Nat} (h : s ≠ a) : cm_up C a w s = C s := if_neg h
def cm_is (A : Nat → Nat → Int32) (C : Nat → Option (List Nat)) : Prop := ∀ s, s < 6 → A 65 s = os (C s) ∧ sg (A 66) (32 * s) ((C s).getD []) ∧ ((C s).getD []).length ≤ 18 ∧ ∀ x ∈ (C s).getD [], x < 8
theorem os_lt' {C : Nat → Option (List Nat)} {s : Nat} (h : ((C s).getD []).length ≤ 18) : (os (C s) < 0) = (C s = none) := os_lt (fun xs hx => by rw [hx] at h; simp at h; omega)
def cm_k (C : Nat → Option (List Nat)) : Nat := (List.range 6).countP (fun s => (C s).isSome)
theorem cm_k6 {C : Nat → Option (List Nat)} : cm_k C ≤ 6 := by
  have := List.countP_le_length (p := fun s => (C s).isSome) (l := List.range 6)
  simpa [cm_k] using this
theorem cm_k_up {C : Nat → Option (List Nat)} {a : Nat} {w : List Nat} (ha : a < 6) (hn : C a = none) : cm_k (cm_up C a w) = cm_k C + 1 := by
  have key : ∀ n, (List.range n).countP (fun s => (cm_up C a w s).isSome) = (List.range n).countP (fun s => (C s).isSome) + if a < n then 1 else 0 := by
    intro n
    induction n with
    | zero => simp
    | succ n ih =>
      rw [List.range_succ, List.countP_append, List.countP_append, ih]
      simp only [List.countP_cons, List.countP_nil, Nat.zero_add]
      by_cases e : n = a
      · subst e; rw [cm_us, hn]; simp
      · rw [cm_un e]
        by_cases c1 : a < n
        · rw [if_pos c1, if_pos (show a < n + 1 by omega)]; omega
        · rw [if_neg c1, if_neg (show ¬ a < n + 1 by omega)]; omega
  have := key 6
  rw [if_pos ha] at this
  exact this
theorem cm_k1 {C : Nat → Option (List Nat)} {a : Nat} (ha : a < 6) (h : C a ≠ none) : 1 ≤ cm_k C := by
  refine List.countP_pos_iff.mpr ⟨a, by simp; exact ha, ?_⟩
  exact Option.isSome_iff_ne_none.mpr h
set_option maxRecDepth 100000 in
set_option maxHeartbeats 4000000 in
theorem c_Mod_shorten {w : rz_w} {d : Nat} {G : rz_G} {a : Nat} {I : Nat → Int32} {A : Nat → Nat → Int32} {C : Nat → Option (List Nat)} {s o : Nat} {b : Bool} {th : Int32} {h u t : List Nat} (hC : cm_is A C) (hs : s < 6) (hh : C s = some h) (hu : (b = true ∧ sg (A 20) o u ∧ o + u.length ≤ 1536) ∨ (b = false ∧ sg (A 22) o u ∧ o + u.length ≤ 384)) (hu8 : ∀ x ∈ u, x < 8) (hul : u.length ≤ 32) (ht : (th = -1 ∧ t = []) ∨ ∃ q, q < 6 ∧ th = nI q ∧ C q = some t) : rz_C w d 0 0 y_Mod_shorten m_Mod_shorten [.ref a, .int (nI s), .int (nI o), .int (nI u.length), .int (rz_b b), .int th] (re_put G a I A) (fun (r : Option Value) (G' : rz_G) => r = some (.int (rz_b (decide (lcpn h (u ++ t) < h.length)))) ∧ ∃ A', G' = re_put G a I A' ∧ fa [65] A A' ∧ cm_is A' (cm_up C s (h.take (lcpn h (u ++ t))))) := by
  generalize hQ : (fun (r : Option Value) (G' : rz_G) => r = some (.int (rz_b (decide (lcpn h (u ++ t) < h.length)))) ∧ ∃ A', G' = re_put G a I A' ∧ fa [65] A A' ∧ cm_is A' (cm_up C s (h.take (lcpn h (u ++ t))))) = Q
  obtain ⟨s1, s2, s3, s4⟩ := hC s hs
  rw [hh] at s1 s2 s3 s4
  have s1 : A 65 s = nI h.length := s1
  simp only [Option.getD_some] at s2 s3 s4
  have hle := lcpn_le h (u ++ t)
  have hend : ∀ (i : Nat) (z7 z8 : Option Value), lcpn h (u ++ t) = i → rz_T w d 0 0 m_Mod_shorten 0 0 132 [some (.ref a), some (.int (nI s)), some (.int (nI o)), some (.int (nI u.length)), some (.int (rz_b b)), some (.int th), some (.int (nI i)), z7, z8] [] (re_put G a I A) Q := by
    intro i z7 z8 hi
    have hcm : cm_is (va_up A 65 (upd (A 65) s (nI i))) (cm_up C s (h.take i)) := by
      intro q hq
      rw [va_up_self, va_up_ne _ _ (by decide)]
      by_cases c : q = s
      · subst c
        rw [pk_us, cm_us]
        have hl : (h.take i).length = i := by rw [List.length_take]; omega
        refine ⟨by simp only [os]; rw [hl], ?_, ?_, ?_⟩
        · intro k hk
          simp only [Option.getD_some] at hk ⊢
          rw [List.getElem_take]
          exact s2 k (by omega)
        · simp only [Option.getD_some]; omega
        · intro x hx; exact s4 x (List.mem_of_mem_take hx)
      · rw [pk_un c, cm_un c]; exact hC q hq
    have hfin : ∀ z, z = rz_b (decide (lcpn h (u ++ t) < h.length)) → Q (some (.int z)) (re_put G a I (va_up A 65 (upd (A 65) s (nI i)))) := by
      rintro z rfl
      rw [← hQ]
      exact ⟨rfl, _, rfl, fa.rf.u rfl, by rw [hi]; exact hcm⟩
    refine rz_blk' [(.iload 6, 2, 0, 0), (.aload_n 0, 1, 0, 0), (.getfield 166, 3, 10, 65), (.iload_n 1, 1, 0, 0), (.iaload, 1, 0, 0), (.if_icmp .ge 7, 3, 0, 0)] (by decide +kernel) (Nat.le_refl _) (Nat.le_refl _) (fun K R hK hR => ?_)
    simp only [↓rx_aload_n0, ↓rx_getfield, ↓rx_iaload, ↓rx_if_icmp_ge, ↓rx_iload, ↓rx_iload_n1, ↓rx_nil, ↓ry_i2, ↓ry_iau, ↓ry_li0s, ↓ry_li0z, ↓ry_lr0s, ↓ry_lr0z, ↓ry_obu, ↓ry_r1, ↓ry_ri, true_and, re_a65, ↓re_F65, ↓re_i65, ↓re_ob, s1, rz_set, rz_nol, rz_clr, List.set_cons_zero, List.set_cons_succ, rz_tr, Nat.reduceAdd, Int.reduceAdd, Int.reduceToNat, Int.reduceSub, Int.reduceNeg, Int.cast_ofNat_Int]
    try simp (disch := omega) only [s1, pk_us, pk_un, va_up_self, va_up_ne, nI_add, pk_mul, nI_clamp, vp_inT, nI_ltI, nI_leI, nI_eqI, pk_sub, true_and, and_true]
    refine ⟨fun q1 => hK _ _ _ _ ?_, fun q1 => hK _ _ _ _ ?_⟩
    · -- 140 taken
      refine rz_blk' [(.iconst 0, 1, 0, 0), (.istore 8, 2, 0, 0)] (by decide +kernel) (Nat.le_refl _) (Nat.le_refl _) (fun K R hK hR => ?_)
      simp only [rw_c0, ↓rx_iconst, ↓rx_istore, ↓rx_nil, ↓ry_i1, s1, rz_set, rz_nol, rz_clr, List.set_cons_zero, List.set_cons_succ, rz_tr, Nat.reduceAdd, Int.reduceAdd, Int.reduceToNat, Int.reduceSub, Int.reduceNeg, Int.cast_ofNat_Int]
      try simp (disch := omega) only [s1, pk_us, pk_un, va_up_self, va_up_ne, nI_add, pk_mul, nI_clamp, vp_inT, nI_ltI, nI_leI, nI_eqI, pk_sub, true_and, and_true]
      refine hK _ _ _ _ ?_
      refine rz_blk' [(.aload_n 0, 1, 0, 0), (.getfield 166, 3, 10, 65), (.iload_n 1, 1, 0, 0), (.iload 6, 2, 0, 0), (.iastore, 1, 0, 0)] (by decide +kernel) (Nat.le_refl _) (Nat.le_refl _) (fun K R hK hR => ?_)
      simp only [↓rx_aload_n0, ↓rx_getfield, ↓rx_iastore, ↓rx_iload, ↓rx_iload_n1, ↓rx_nil, ↓ry_iau, ↓ry_li0s, ↓ry_li0z, ↓ry_lr0s, ↓ry_lr0z, ↓ry_obu, ↓ry_r1, ↓ry_rii, true_and, re_a65, ↓re_F65, ↓re_i65, ↓re_ob, s1, rz_set, rz_nol, rz_clr, List.set_cons_zero, List.set_cons_succ, rz_tr, Nat.reduceAdd, Int.reduceAdd, Int.reduceToNat, Int.reduceSub, Int.reduceNeg, Int.cast_ofNat_Int]
      try simp (disch := omega) only [s1, pk_us, pk_un, va_up_self, va_up_ne, nI_add, pk_mul, nI_clamp, vp_inT, nI_ltI, nI_leI, nI_eqI, pk_sub, true_and, and_true]
      refine hK _ _ _ _ ?_
      refine rz_blk' [(.iload 8, 2, 0, 0), (.ireturn, 1, 0, 0)] (by decide +kernel) (Nat.le_refl _) (Nat.le_refl _) (fun K R hK hR => ?_)
      simp only [↓rx_iload, ↓rx_ireturn, ↓rx_nil, ↓ry_li0s, ↓ry_li0z, s1, rz_set, rz_nol, rz_clr, List.set_cons_zero, List.set_cons_succ, rz_tr, Nat.reduceAdd, Int.reduceAdd, Int.reduceToNat, Int.reduceSub, Int.reduceNeg, Int.cast_ofNat_Int]
      try simp (disch := omega) only [s1, pk_us, pk_un, va_up_self, va_up_ne, nI_add, pk_mul, nI_clamp, vp_inT, nI_ltI, nI_leI, nI_eqI, pk_sub, true_and, and_true]
      first
        | exact hR _ _ rz_nb_1 (hfin _ (by rw [decide_eq_true (by omega)]; rfl))
        | exact hR _ _ rz_nb_0 (hfin _ (by rw [decide_eq_false (by omega)]; rfl))
    · -- 140 not taken
      refine rz_blk' [(.iconst 1, 1, 0, 0), (.goto 4, 3, 0, 0)] (by decide +kernel) (Nat.le_refl _) (Nat.le_refl _) (fun K R hK hR => ?_)
      simp only [rw_c1, ↓rx_goto, ↓rx_iconst, ↓rx_nil, s1, rz_set, rz_nol, rz_clr, List.set_cons_zero, List.set_cons_succ, rz_tr, Nat.reduceAdd, Int.reduceAdd, Int.reduceToNat, Int.reduceSub, Int.reduceNeg, Int.cast_ofNat_Int]
      try simp (disch := omega) only [s1, pk_us, pk_un, va_up_self, va_up_ne, nI_add, pk_mul, nI_clamp, vp_inT, nI_ltI, nI_leI, nI_eqI, pk_sub, true_and, and_true]
      refine hK _ _ _ _ ?_
      refine rz_blk' [(.istore 8, 2, 0, 0)] (by decide +kernel) (Nat.le_refl _) (Nat.le_refl _) (fun K R hK hR => ?_)
      simp only [↓rx_istore, ↓rx_nil, ↓ry_i1, s1, rz_set, rz_nol, rz_clr, List.set_cons_zero, List.set_cons_succ, rz_tr, Nat.reduceAdd, Int.reduceAdd, Int.reduceToNat, Int.reduceSub, Int.reduceNeg, Int.cast_ofNat_Int]
      try simp (disch := omega) only [s1, pk_us, pk_un, va_up_self, va_up_ne, nI_add, pk_mul, nI_clamp, vp_inT, nI_ltI, nI_leI, nI_eqI, pk_sub, true_and, and_true]
      refine hK _ _ _ _ ?_
      refine rz_blk' [(.aload_n 0, 1, 0, 0), (.getfield 166, 3, 10, 65), (.iload_n 1, 1, 0, 0), (.iload 6, 2, 0, 0), (.iastore, 1, 0, 0)] (by decide +kernel) (Nat.le_refl _) (Nat.le_refl _) (fun K R hK hR => ?_)
      simp only [↓rx_aload_n0, ↓rx_getfield, ↓rx_iastore, ↓rx_iload, ↓rx_iload_n1, ↓rx_nil, ↓ry_iau, ↓ry_li0s, ↓ry_li0z, ↓ry_lr0s, ↓ry_lr0z, ↓ry_obu, ↓ry_r1, ↓ry_rii, true_and, re_a65, ↓re_F65, ↓re_i65, ↓re_ob, s1, rz_set, rz_nol, rz_clr, List.set_cons_zero, List.set_cons_succ, rz_tr, Nat.reduceAdd, Int.reduceAdd, Int.reduceToNat, Int.reduceSub, Int.reduceNeg, Int.cast_ofNat_Int]
      try simp (disch := omega) only [s1, pk_us, pk_un, va_up_self, va_up_ne, nI_add, pk_mul, nI_clamp, vp_inT, nI_ltI, nI_leI, nI_eqI, pk_sub, true_and, and_true]
      refine hK _ _ _ _ ?_
      refine rz_blk' [(.iload 8, 2, 0, 0), (.ireturn, 1, 0, 0)] (by decide +kernel) (Nat.le_refl _) (Nat.le_refl _) (fun K R hK hR => ?_)
      simp only [↓rx_iload, ↓rx_ireturn, ↓rx_nil, ↓ry_li0s, ↓ry_li0z, s1, rz_set, rz_nol, rz_clr, List.set_cons_zero, List.set_cons_succ, rz_tr, Nat.reduceAdd, Int.reduceAdd, Int.reduceToNat, Int.reduceSub, Int.reduceNeg, Int.cast_ofNat_Int]
      try simp (disch := omega) only [s1, pk_us, pk_un, va_up_self, va_up_ne, nI_add, pk_mul, nI_clamp, vp_inT, nI_ltI, nI_leI, nI_eqI, pk_sub, true_and, and_true]
      first
        | exact hR _ _ rz_nb_1 (hfin _ (by rw [decide_eq_true (by omega)]; rfl))
        | exact hR _ _ rz_nb_0 (hfin _ (by rw [decide_eq_false (by omega)]; rfl))
  have lp : ∀ (j i : Nat) (z8 : Option Value), i + j = h.length → i ≤ (u ++ t).length → (∀ k, k < i → h[k]? = (u ++ t)[k]?) → rz_T w d 0 0 m_Mod_shorten 0 0 6 [some (.ref a), some (.int (nI s)), some (.int (nI o)), some (.int (nI u.length)), some (.int (rz_b b)), some (.int th), some (.int (nI i)), some (.int (rz_b true)), z8] [] (re_put G a I A) Q := by
    intro j
    induction j with
    | zero =>
      intro i z8 hij hiw hk
      have ho := lcpn_eq (u := h) (v := (u ++ t)) (k := i) (by omega) hiw hk (fun _ _ => by omega)
      refine rz_blk' [(.iload 7, 2, 0, 0), (.ifCond .eq 124, 3, 0, 0)] (by decide +kernel) (Nat.le_refl _) (Nat.le_refl _) (fun K R hK hR => ?_)
      simp only [↓rx_ifCond_eq, ↓rx_iload, ↓rx_nil, ↓ry_i1, ↓ry_li0s, ↓ry_li0z, s1, rz_set, rz_nol, rz_clr, List.set_cons_zero, List.set_cons_succ, rz_tr, Nat.reduceAdd, Int.reduceAdd, Int.reduceToNat, Int.reduceSub, Int.reduceNeg, Int.cast_ofNat_Int]
      try simp (disch := omega) only [s1, pk_us, pk_un, va_up_self, va_up_ne, nI_add, pk_mul, nI_clamp, vp_inT, nI_ltI, nI_leI, nI_eqI, pk_sub, true_and, and_true]
      refine ⟨fun q2 => absurd q2 (by decide), fun q2 => hK _ _ _ _ ?_⟩
      refine rz_blk' [(.iload 6, 2, 0, 0), (.aload_n 0, 1, 0, 0), (.getfield 166, 3, 10, 65), (.iload_n 1, 1, 0, 0), (.iaload, 1, 0, 0), (.if_icmp .ge 113, 3, 0, 0)] (by decide +kernel) (Nat.le_refl _) (Nat.le_refl _) (fun K R hK hR => ?_)
      simp only [↓rx_aload_n0, ↓rx_getfield, ↓rx_iaload, ↓rx_if_icmp_ge, ↓rx_iload, ↓rx_iload_n1, ↓rx_nil, ↓ry_i2, ↓ry_iau, ↓ry_li0s, ↓ry_li0z, ↓ry_lr0s, ↓ry_lr0z, ↓ry_obu, ↓ry_r1, ↓ry_ri, true_and, re_a65, ↓re_F65, ↓re_i65, ↓re_ob, s1, rz_set, rz_nol, rz_clr, List.set_cons_zero, List.set_cons_succ, rz_tr, Nat.reduceAdd, Int.reduceAdd, Int.reduceToNat, Int.reduceSub, Int.reduceNeg, Int.cast_ofNat_Int]
      try simp (disch := omega) only [s1, pk_us, pk_un, va_up_self, va_up_ne, nI_add, pk_mul, nI_clamp, vp_inT, nI_ltI, nI_leI, nI_eqI, pk_sub, true_and, and_true]
      refine ⟨fun q3 => hK _ _ _ _ ?_, fun q3 => by omega⟩
      exact hend i _ _ ho
    | succ j ih =>
      intro i z8 hij hiw hk
      have hih : i < h.length := by omega
      have e66 := s2 i hih
      have h8 : h[i] < 8 := s4 _ (List.getElem_mem hih)
      have hstop : (i < (u ++ t).length → h[i]? ≠ (u ++ t)[i]?) → lcpn h (u ++ t) = i := fun q => lcpn_eq (by omega) hiw hk (fun _ q2 => q q2)
      have hnext : i < (u ++ t).length → h[i]? = (u ++ t)[i]? → ∀ z8, rz_T w d 0 0 m_Mod_shorten 0 0 6 [some (.ref a), some (.int (nI s)), some (.int (nI o)), some (.int (nI u.length)), some (.int (rz_b b)), some (.int th), some (.int (nI (i + 1))), some (.int (rz_b true)), z8] [] (re_put G a I A) Q := by
        intro q1 q2 z8
        refine ih (i + 1) z8 (by omega) q1 (fun k hk2 => ?_)
        by_cases ck : k = i
        · subst ck; exact q2
        · exact hk k (by omega)
      -- the comparison
      have hcmp : ∀ (hv : Int32), ((i < (u ++ t).length ∧ ∃ y, (u ++ t)[i]? = some y ∧ y < 8 ∧ hv = nI y) ∨ ((u ++ t).length ≤ i ∧ hv = -1)) → rz_T w d 0 0 m_Mod_shorten 0 0 97 [some (.ref a), some (.int (nI s)), some (.int (nI o)), some (.int (nI u.length)), some (.int (rz_b b)), some (.int th), some (.int (nI i)), some (.int (rz_b true)), some (.int hv)] [] (re_put G a I A) Q := by
        rintro hv (⟨q1, y, q2, q3, rfl⟩ | ⟨q1, rfl⟩)
        · have hnx := hnext q1
          by_cases cy : y = h[i]
          · have hnx := hnx (by rw [List.getElem?_eq_getElem hih, q2, cy])
            subst cy
            refine rz_blk' [(.iload 8, 2, 0, 0), (.aload_n 0, 1, 0, 0), (.getfield 169, 3, 10, 66), (.bipush 32, 2, 0, 0), (.iload_n 1, 1, 0, 0), (.imul, 1, 0, 0), (.iload 6, 2, 0, 0), (.iadd, 1, 0, 0), (.iaload, 1, 0, 0), (.if_icmp .ne 7, 3, 0, 0)] (by decide +kernel) (Nat.le_refl _) (Nat.le_refl _) (fun K R hK hR => ?_)
            simp only [rw_b32, ↓rx_aload_n0, ↓rx_bipush, ↓rx_getfield, ↓rx_iadd, ↓rx_iaload, ↓rx_if_icmp_ne, ↓rx_iload, ↓rx_iload_n1, ↓rx_imul, ↓rx_nil, ↓ry_i2, ↓ry_iau, ↓ry_li0s, ↓ry_li0z, ↓ry_lr0s, ↓ry_lr0z, ↓ry_obu, ↓ry_r1, ↓ry_ri, true_and, re_a66, ↓re_F66, ↓re_i66, ↓re_ob, e66, rz_set, rz_nol, rz_clr, List.set_cons_zero, List.set_cons_succ, rz_tr, Nat.reduceAdd, Int.reduceAdd, Int.reduceToNat, Int.reduceSub, Int.reduceNeg, Int.cast_ofNat_Int]
            try simp (disch := omega) only [e66, pk_us, pk_un, va_up_self, va_up_ne, nI_add, pk_mul, nI_clamp, vp_inT, nI_ltI, nI_leI, nI_eqI, pk_sub, true_and, and_true]
            refine ⟨fun q4 => by first | exact absurd rfl q4 | exact absurd trivial q4 | omega, fun q4 => hK _ _ _ _ ?_⟩
            refine rz_blk' [(.iconst 1, 1, 0, 0), (.goto 4, 3, 0, 0)] (by decide +kernel) (Nat.le_refl _) (Nat.le_refl _) (fun K R hK hR => ?_)
            simp only [rw_c1, ↓rx_goto, ↓rx_iconst, ↓rx_nil, e66, rz_set, rz_nol, rz_clr, List.set_cons_zero, List.set_cons_succ, rz_tr, Nat.reduceAdd, Int.reduceAdd, Int.reduceToNat, Int.reduceSub, Int.reduceNeg, Int.cast_ofNat_Int]
            try simp (disch := omega) only [e66, pk_us, pk_un, va_up_self, va_up_ne, nI_add, pk_mul, nI_clamp, vp_inT, nI_ltI, nI_leI, nI_eqI, pk_sub, true_and, and_true]
            refine hK _ _ _ _ ?_
            refine rz_blk' [(.istore 7, 2, 0, 0)] (by decide +kernel) (Nat.le_refl _) (Nat.le_refl _) (fun K R hK hR => ?_)
            simp only [↓rx_istore, ↓rx_nil, ↓ry_i1, e66, rz_set, rz_nol, rz_clr, List.set_cons_zero, List.set_cons_succ, rz_tr, Nat.reduceAdd, Int.reduceAdd, Int.reduceToNat, Int.reduceSub, Int.reduceNeg, Int.cast_ofNat_Int]
            try simp (disch := omega) only [e66, pk_us, pk_un, va_up_self, va_up_ne, nI_add, pk_mul, nI_clamp, vp_inT, nI_ltI, nI_leI, nI_eqI, pk_sub, true_and, and_true]
            refine hK _ _ _ _ ?_
            refine rz_blk' [(.iload 7, 2, 0, 0), (.ifCond .eq 6, 3, 0, 0)] (by decide +kernel) (Nat.le_refl _) (Nat.le_refl _) (fun K R hK hR => ?_)
            simp only [↓rx_ifCond_eq, ↓rx_iload, ↓rx_nil, ↓ry_i1, ↓ry_li0s, ↓ry_li0z, e66, rz_set, rz_nol, rz_clr, List.set_cons_zero, List.set_cons_succ, rz_tr, Nat.reduceAdd, Int.reduceAdd, Int.reduceToNat, Int.reduceSub, Int.reduceNeg, Int.cast_ofNat_Int]
            try simp (disch := omega) only [e66, pk_us, pk_un, va_up_self, va_up_ne, nI_add, pk_mul, nI_clamp, vp_inT, nI_ltI, nI_leI, nI_eqI, pk_sub, true_and, and_true]
            refine ⟨fun q5 => absurd q5 (by decide), fun q5 => hK _ _ _ _ ?_⟩
            refine rz_blk' [(.iinc 6 1, 3, 0, 0)] (by decide +kernel) (Nat.le_refl _) (Nat.le_refl _) (fun K R hK hR => ?_)
            simp only [rw_c1, ↓rx_iinc, ↓rx_nil, ↓ry_li0s, ↓ry_li0z, e66, rz_set, rz_nol, rz_clr, List.set_cons_zero, List.set_cons_succ, rz_tr, Nat.reduceAdd, Int.reduceAdd, Int.reduceToNat, Int.reduceSub, Int.reduceNeg, Int.cast_ofNat_Int]
            try simp (disch := omega) only [e66, pk_us, pk_un, va_up_self, va_up_ne, nI_add, pk_mul, nI_clamp, vp_inT, nI_ltI, nI_leI, nI_eqI, pk_sub, true_and, and_true]
            refine hK _ _ _ _ ?_
            refine rz_blk' [(.goto (-123), 3, 0, 0)] (by decide +kernel) (Nat.le_refl _) (Nat.le_refl _) (fun K R hK hR => ?_)
            simp only [↓rx_goto, ↓rx_nil, e66, rz_set, rz_nol, rz_clr, List.set_cons_zero, List.set_cons_succ, rz_tr, Nat.reduceAdd, Int.reduceAdd, Int.reduceToNat, Int.reduceSub, Int.reduceNeg, Int.cast_ofNat_Int]
            try simp (disch := omega) only [e66, pk_us, pk_un, va_up_self, va_up_ne, nI_add, pk_mul, nI_clamp, vp_inT, nI_ltI, nI_leI, nI_eqI, pk_sub, true_and, and_true]
            refine hK _ _ _ _ ?_
            exact hnx _
          · have hst := hstop (fun _ => by
              rw [List.getElem?_eq_getElem hih, q2]
              intro q
              exact cy (Option.some.inj q).symm)
            refine rz_blk' [(.iload 8, 2, 0, 0), (.aload_n 0, 1, 0, 0), (.getfield 169, 3, 10, 66), (.bipush 32, 2, 0, 0), (.iload_n 1, 1, 0, 0), (.imul, 1, 0, 0), (.iload 6, 2, 0, 0), (.iadd, 1, 0, 0), (.iaload, 1, 0, 0), (.if_icmp .ne 7, 3, 0, 0)] (by decide +kernel) (Nat.le_refl _) (Nat.le_refl _) (fun K R hK hR => ?_)
            simp only [rw_b32, ↓rx_aload_n0, ↓rx_bipush, ↓rx_getfield, ↓rx_iadd, ↓rx_iaload, ↓rx_if_icmp_ne, ↓rx_iload, ↓rx_iload_n1, ↓rx_imul, ↓rx_nil, ↓ry_i2, ↓ry_iau, ↓ry_li0s, ↓ry_li0z, ↓ry_lr0s, ↓ry_lr0z, ↓ry_obu, ↓ry_r1, ↓ry_ri, true_and, re_a66, ↓re_F66, ↓re_i66, ↓re_ob, e66, rz_set, rz_nol, rz_clr, List.set_cons_zero, List.set_cons_succ, rz_tr, Nat.reduceAdd, Int.reduceAdd, Int.reduceToNat, Int.reduceSub, Int.reduceNeg, Int.cast_ofNat_Int]
            try simp (disch := omega) only [e66, pk_us, pk_un, va_up_self, va_up_ne, nI_add, pk_mul, nI_clamp, vp_inT, nI_ltI, nI_leI, nI_eqI, pk_sub, true_and, and_true]
            refine ⟨fun q6 => hK _ _ _ _ ?_, fun q6 => absurd q6 (by omega)⟩
            refine rz_blk' [(.iconst 0, 1, 0, 0), (.istore 7, 2, 0, 0)] (by decide +kernel) (Nat.le_refl _) (Nat.le_refl _) (fun K R hK hR => ?_)
            simp only [rw_c0, ↓rx_iconst, ↓rx_istore, ↓rx_nil, ↓ry_i1, e66, rz_set, rz_nol, rz_clr, List.set_cons_zero, List.set_cons_succ, rz_tr, Nat.reduceAdd, Int.reduceAdd, Int.reduceToNat, Int.reduceSub, Int.reduceNeg, Int.cast_ofNat_Int]
            try simp (disch := omega) only [e66, pk_us, pk_un, va_up_self, va_up_ne, nI_add, pk_mul, nI_clamp, vp_inT, nI_ltI, nI_leI, nI_eqI, pk_sub, true_and, and_true]
            refine hK _ _ _ _ ?_
            refine rz_blk' [(.iload 7, 2, 0, 0), (.ifCond .eq 6, 3, 0, 0)] (by decide +kernel) (Nat.le_refl _) (Nat.le_refl _) (fun K R hK hR => ?_)
            simp only [↓rx_ifCond_eq, ↓rx_iload, ↓rx_nil, ↓ry_i1, ↓ry_li0s, ↓ry_li0z, e66, rz_set, rz_nol, rz_clr, List.set_cons_zero, List.set_cons_succ, rz_tr, Nat.reduceAdd, Int.reduceAdd, Int.reduceToNat, Int.reduceSub, Int.reduceNeg, Int.cast_ofNat_Int]
            try simp (disch := omega) only [e66, pk_us, pk_un, va_up_self, va_up_ne, nI_add, pk_mul, nI_clamp, vp_inT, nI_ltI, nI_leI, nI_eqI, pk_sub, true_and, and_true]
            refine ⟨fun q7 => hK _ _ _ _ ?_, fun q7 => by first | exact absurd rfl q7 | exact absurd trivial q7⟩
            refine rz_blk' [(.goto (-123), 3, 0, 0)] (by decide +kernel) (Nat.le_refl _) (Nat.le_refl _) (fun K R hK hR => ?_)
            simp only [↓rx_goto, ↓rx_nil, e66, rz_set, rz_nol, rz_clr, List.set_cons_zero, List.set_cons_succ, rz_tr, Nat.reduceAdd, Int.reduceAdd, Int.reduceToNat, Int.reduceSub, Int.reduceNeg, Int.cast_ofNat_Int]
            try simp (disch := omega) only [e66, pk_us, pk_un, va_up_self, va_up_ne, nI_add, pk_mul, nI_clamp, vp_inT, nI_ltI, nI_leI, nI_eqI, pk_sub, true_and, and_true]
            refine hK _ _ _ _ ?_
            refine rz_blk' [(.iload 7, 2, 0, 0), (.ifCond .eq 124, 3, 0, 0)] (by decide +kernel) (Nat.le_refl _) (Nat.le_refl _) (fun K R hK hR => ?_)
            simp only [↓rx_ifCond_eq, ↓rx_iload, ↓rx_nil, ↓ry_i1, ↓ry_li0s, ↓ry_li0z, s1, rz_set, rz_nol, rz_clr, List.set_cons_zero, List.set_cons_succ, rz_tr, Nat.reduceAdd, Int.reduceAdd, Int.reduceToNat, Int.reduceSub, Int.reduceNeg, Int.cast_ofNat_Int]
            try simp (disch := omega) only [s1, pk_us, pk_un, va_up_self, va_up_ne, nI_add, pk_mul, nI_clamp, vp_inT, nI_ltI, nI_leI, nI_eqI, pk_sub, true_and, and_true]
            refine ⟨fun q8 => hK _ _ _ _ ?_, fun q8 => by first | exact absurd rfl q8 | exact absurd trivial q8⟩
            exact hend i _ _ hst
        · have hst := hstop (fun q => by omega)
          have hne : (-1 : Int32) ≠ nI h[i] := fun q => by
            have : ∀ n, n < 8 → (-1 : Int32) ≠ nI n := by decide +kernel
            exact this _ h8 q
          refine rz_blk' [(.iload 8, 2, 0, 0), (.aload_n 0, 1, 0, 0), (.getfield 169, 3, 10, 66), (.bipush 32, 2, 0, 0), (.iload_n 1, 1, 0, 0), (.imul, 1, 0, 0), (.iload 6, 2, 0, 0), (.iadd, 1, 0, 0), (.iaload, 1, 0, 0), (.if_icmp .ne 7, 3, 0, 0)] (by decide +kernel) (Nat.le_refl _) (Nat.le_refl _) (fun K R hK hR => ?_)
          simp only [rw_b32, ↓rx_aload_n0, ↓rx_bipush, ↓rx_getfield, ↓rx_iadd, ↓rx_iaload, ↓rx_if_icmp_ne, ↓rx_iload, ↓rx_iload_n1, ↓rx_imul, ↓rx_nil, ↓ry_i2, ↓ry_iau, ↓ry_li0s, ↓ry_li0z, ↓ry_lr0s, ↓ry_lr0z, ↓ry_obu, ↓ry_r1, ↓ry_ri, true_and, re_a66, ↓re_F66, ↓re_i66, ↓re_ob, e66, rz_set, rz_nol, rz_clr, List.set_cons_zero, List.set_cons_succ, rz_tr, Nat.reduceAdd, Int.reduceAdd, Int.reduceToNat, Int.reduceSub, Int.reduceNeg, Int.cast_ofNat_Int]
          try simp (disch := omega) only [e66, pk_us, pk_un, va_up_self, va_up_ne, nI_add, pk_mul, nI_clamp, vp_inT, nI_ltI, nI_leI, nI_eqI, pk_sub, true_and, and_true]
          refine ⟨fun q9 => hK _ _ _ _ ?_, fun q9 => absurd q9 hne⟩
          refine rz_blk' [(.iconst 0, 1, 0, 0), (.istore 7, 2, 0, 0)] (by decide +kernel) (Nat.le_refl _) (Nat.le_refl _) (fun K R hK hR => ?_)
          simp only [rw_c0, ↓rx_iconst, ↓rx_istore, ↓rx_nil, ↓ry_i1, e66, rz_set, rz_nol, rz_clr, List.set_cons_zero, List.set_cons_succ, rz_tr, Nat.reduceAdd, Int.reduceAdd, Int.reduceToNat, Int.reduceSub, Int.reduceNeg, Int.cast_ofNat_Int]
          try simp (disch := omega) only [e66, pk_us, pk_un, va_up_self, va_up_ne, nI_add, pk_mul, nI_clamp, vp_inT, nI_ltI, nI_leI, nI_eqI, pk_sub, true_and, and_true]
          refine hK _ _ _ _ ?_
          refine rz_blk' [(.iload 7, 2, 0, 0), (.ifCond .eq 6, 3, 0, 0)] (by decide +kernel) (Nat.le_refl _) (Nat.le_refl _) (fun K R hK hR => ?_)
          simp only [↓rx_ifCond_eq, ↓rx_iload, ↓rx_nil, ↓ry_i1, ↓ry_li0s, ↓ry_li0z, e66, rz_set, rz_nol, rz_clr, List.set_cons_zero, List.set_cons_succ, rz_tr, Nat.reduceAdd, Int.reduceAdd, Int.reduceToNat, Int.reduceSub, Int.reduceNeg, Int.cast_ofNat_Int]
          try simp (disch := omega) only [e66, pk_us, pk_un, va_up_self, va_up_ne, nI_add, pk_mul, nI_clamp, vp_inT, nI_ltI, nI_leI, nI_eqI, pk_sub, true_and, and_true]
          refine ⟨fun q10 => hK _ _ _ _ ?_, fun q10 => by first | exact absurd rfl q10 | exact absurd trivial q10⟩
          refine rz_blk' [(.goto (-123), 3, 0, 0)] (by decide +kernel) (Nat.le_refl _) (Nat.le_refl _) (fun K R hK hR => ?_)
          simp only [↓rx_goto, ↓rx_nil, e66, rz_set, rz_nol, rz_clr, List.set_cons_zero, List.set_cons_succ, rz_tr, Nat.reduceAdd, Int.reduceAdd, Int.reduceToNat, Int.reduceSub, Int.reduceNeg, Int.cast_ofNat_Int]
          try simp (disch := omega) only [e66, pk_us, pk_un, va_up_self, va_up_ne, nI_add, pk_mul, nI_clamp, vp_inT, nI_ltI, nI_leI, nI_eqI, pk_sub, true_and, and_true]
          refine hK _ _ _ _ ?_
          refine rz_blk' [(.iload 7, 2, 0, 0), (.ifCond .eq 124, 3, 0, 0)] (by decide +kernel) (Nat.le_refl _) (Nat.le_refl _) (fun K R hK hR => ?_)
          simp only [↓rx_ifCond_eq, ↓rx_iload, ↓rx_nil, ↓ry_i1, ↓ry_li0s, ↓ry_li0z, s1, rz_set, rz_nol, rz_clr, List.set_cons_zero, List.set_cons_succ, rz_tr, Nat.reduceAdd, Int.reduceAdd, Int.reduceToNat, Int.reduceSub, Int.reduceNeg, Int.cast_ofNat_Int]
          try simp (disch := omega) only [s1, pk_us, pk_un, va_up_self, va_up_ne, nI_add, pk_mul, nI_clamp, vp_inT, nI_ltI, nI_leI, nI_eqI, pk_sub, true_and, and_true]
          refine ⟨fun q11 => hK _ _ _ _ ?_, fun q11 => by first | exact absurd rfl q11 | exact absurd trivial q11⟩
          exact hend i _ _ hst
      by_cases ciu : i < u.length
      · have hWi : (u ++ t)[i]? = some u[i] := by rw [List.getElem?_append_left ciu, List.getElem?_eq_getElem ciu]
        have hgo := hcmp (nI u[i]) (Or.inl ⟨by rw [List.length_append]; omega, u[i], hWi, hu8 _ (List.getElem_mem ciu), rfl⟩)
        rcases hu with ⟨rfl, hsg, hol⟩ | ⟨rfl, hsg, hol⟩
        · have e1 := hsg i ciu
          refine rz_blk' [(.iload 7, 2, 0, 0), (.ifCond .eq 124, 3, 0, 0)] (by decide +kernel) (Nat.le_refl _) (Nat.le_refl _) (fun K R hK hR => ?_)
          simp only [↓rx_ifCond_eq, ↓rx_iload, ↓rx_nil, ↓ry_i1, ↓ry_li0s, ↓ry_li0z, s1, e1, rz_set, rz_nol, rz_clr, List.set_cons_zero, List.set_cons_succ, rz_tr, Nat.reduceAdd, Int.reduceAdd, Int.reduceToNat, Int.reduceSub, Int.reduceNeg, Int.cast_ofNat_Int]
          try simp (disch := omega) only [s1, e1, pk_us, pk_un, va_up_self, va_up_ne, nI_add, pk_mul, nI_clamp, vp_inT, nI_ltI, nI_leI, nI_eqI, pk_sub, true_and, and_true]
          refine ⟨fun q12 => absurd q12 (by decide), fun q12 => hK _ _ _ _ ?_⟩
          refine rz_blk' [(.iload 6, 2, 0, 0), (.aload_n 0, 1, 0, 0), (.getfield 166, 3, 10, 65), (.iload_n 1, 1, 0, 0), (.iaload, 1, 0, 0), (.if_icmp .ge 113, 3, 0, 0)] (by decide +kernel) (Nat.le_refl _) (Nat.le_refl _) (fun K R hK hR => ?_)
          simp only [↓rx_aload_n0, ↓rx_getfield, ↓rx_iaload, ↓rx_if_icmp_ge, ↓rx_iload, ↓rx_iload_n1, ↓rx_nil, ↓ry_i2, ↓ry_iau, ↓ry_li0s, ↓ry_li0z, ↓ry_lr0s, ↓ry_lr0z, ↓ry_obu, ↓ry_r1, ↓ry_ri, true_and, re_a65, ↓re_F65, ↓re_i65, ↓re_ob, s1, e1, rz_set, rz_nol, rz_clr, List.set_cons_zero, List.set_cons_succ, rz_tr, Nat.reduceAdd, Int.reduceAdd, Int.reduceToNat, Int.reduceSub, Int.reduceNeg, Int.cast_ofNat_Int]
          try simp (disch := omega) only [s1, e1, pk_us, pk_un, va_up_self, va_up_ne, nI_add, pk_mul, nI_clamp, vp_inT, nI_ltI, nI_leI, nI_eqI, pk_sub, true_and, and_true]
          refine ⟨fun q13 => by omega, fun q13 => hK _ _ _ _ ?_⟩
          refine rz_blk' [(.iload 6, 2, 0, 0), (.iload_n 3, 1, 0, 0), (.if_icmp .ge 32, 3, 0, 0)] (by decide +kernel) (Nat.le_refl _) (Nat.le_refl _) (fun K R hK hR => ?_)
          simp only [↓rx_if_icmp_ge, ↓rx_iload, ↓rx_iload_n3, ↓rx_nil, ↓ry_i2, ↓ry_li0s, ↓ry_li0z, s1, e1, rz_set, rz_nol, rz_clr, List.set_cons_zero, List.set_cons_succ, rz_tr, Nat.reduceAdd, Int.reduceAdd, Int.reduceToNat, Int.reduceSub, Int.reduceNeg, Int.cast_ofNat_Int]
          try simp (disch := omega) only [s1, e1, pk_us, pk_un, va_up_self, va_up_ne, nI_add, pk_mul, nI_clamp, vp_inT, nI_ltI, nI_leI, nI_eqI, pk_sub, true_and, and_true]
          refine ⟨fun q14 => by omega, fun q14 => hK _ _ _ _ ?_⟩
          refine rz_blk' [(.iload 4, 2, 0, 0), (.ifCond .eq 15, 3, 0, 0)] (by decide +kernel) (Nat.le_refl _) (Nat.le_refl _) (fun K R hK hR => ?_)
          simp only [↓rx_ifCond_eq, ↓rx_iload, ↓rx_nil, ↓ry_i1, ↓ry_li0s, ↓ry_li0z, s1, e1, rz_set, rz_nol, rz_clr, List.set_cons_zero, List.set_cons_succ, rz_tr, Nat.reduceAdd, Int.reduceAdd, Int.reduceToNat, Int.reduceSub, Int.reduceNeg, Int.cast_ofNat_Int]
          try simp (disch := omega) only [s1, e1, pk_us, pk_un, va_up_self, va_up_ne, nI_add, pk_mul, nI_clamp, vp_inT, nI_ltI, nI_leI, nI_eqI, pk_sub, true_and, and_true]
          refine ⟨fun q15 => absurd q15 (by decide), fun q15 => hK _ _ _ _ ?_⟩
          refine rz_blk' [(.aload_n 0, 1, 0, 0), (.getfield 65, 3, 10, 20), (.iload_n 2, 1, 0, 0), (.iload 6, 2, 0, 0), (.iadd, 1, 0, 0), (.iaload, 1, 0, 0), (.goto 53, 3, 0, 0)] (by decide +kernel) (Nat.le_refl _) (Nat.le_refl _) (fun K R hK hR => ?_)
          simp only [↓rx_aload_n0, ↓rx_getfield, ↓rx_goto, ↓rx_iadd, ↓rx_iaload, ↓rx_iload, ↓rx_iload_n2, ↓rx_nil, ↓ry_i2, ↓ry_iau, ↓ry_li0s, ↓ry_li0z, ↓ry_lr0s, ↓ry_lr0z, ↓ry_obu, ↓ry_r1, ↓ry_ri, true_and, re_a20, ↓re_F20, ↓re_i20, ↓re_ob, s1, e1, rz_set, rz_nol, rz_clr, List.set_cons_zero, List.set_cons_succ, rz_tr, Nat.reduceAdd, Int.reduceAdd, Int.reduceToNat, Int.reduceSub, Int.reduceNeg, Int.cast_ofNat_Int]
          try simp (disch := omega) only [s1, e1, pk_us, pk_un, va_up_self, va_up_ne, nI_add, pk_mul, nI_clamp, vp_inT, nI_ltI, nI_leI, nI_eqI, pk_sub, true_and, and_true]
          refine hK _ _ _ _ ?_
          refine rz_blk' [(.istore 8, 2, 0, 0)] (by decide +kernel) (Nat.le_refl _) (Nat.le_refl _) (fun K R hK hR => ?_)
          simp only [↓rx_istore, ↓rx_nil, ↓ry_i1, s1, e1, rz_set, rz_nol, rz_clr, List.set_cons_zero, List.set_cons_succ, rz_tr, Nat.reduceAdd, Int.reduceAdd, Int.reduceToNat, Int.reduceSub, Int.reduceNeg, Int.cast_ofNat_Int]
          try simp (disch := omega) only [s1, e1, pk_us, pk_un, va_up_self, va_up_ne, nI_add, pk_mul, nI_clamp, vp_inT, nI_ltI, nI_leI, nI_eqI, pk_sub, true_and, and_true]
          refine hK _ _ _ _ ?_
          exact hgo
        · have e1 := hsg i ciu
          refine rz_blk' [(.iload 7, 2, 0, 0), (.ifCond .eq 124, 3, 0, 0)] (by decide +kernel) (Nat.le_refl _) (Nat.le_refl _) (fun K R hK hR => ?_)
          simp only [↓rx_ifCond_eq, ↓rx_iload, ↓rx_nil, ↓ry_i1, ↓ry_li0s, ↓ry_li0z, s1, e1, rz_set, rz_nol, rz_clr, List.set_cons_zero, List.set_cons_succ, rz_tr, Nat.reduceAdd, Int.reduceAdd, Int.reduceToNat, Int.reduceSub, Int.reduceNeg, Int.cast_ofNat_Int]
          try simp (disch := omega) only [s1, e1, pk_us, pk_un, va_up_self, va_up_ne, nI_add, pk_mul, nI_clamp, vp_inT, nI_ltI, nI_leI, nI_eqI, pk_sub, true_and, and_true]
          refine ⟨fun q16 => absurd q16 (by decide), fun q16 => hK _ _ _ _ ?_⟩
          refine rz_blk' [(.iload 6, 2, 0, 0), (.aload_n 0, 1, 0, 0), (.getfield 166, 3, 10, 65), (.iload_n 1, 1, 0, 0), (.iaload, 1, 0, 0), (.if_icmp .ge 113, 3, 0, 0)] (by decide +kernel) (Nat.le_refl _) (Nat.le_refl _) (fun K R hK hR => ?_)
          simp only [↓rx_aload_n0, ↓rx_getfield, ↓rx_iaload, ↓rx_if_icmp_ge, ↓rx_iload, ↓rx_iload_n1, ↓rx_nil, ↓ry_i2, ↓ry_iau, ↓ry_li0s, ↓ry_li0z, ↓ry_lr0s, ↓ry_lr0z, ↓ry_obu, ↓ry_r1, ↓ry_ri, true_and, re_a65, ↓re_F65, ↓re_i65, ↓re_ob, s1, e1, rz_set, rz_nol, rz_clr, List.set_cons_zero, List.set_cons_succ, rz_tr, Nat.reduceAdd, Int.reduceAdd, Int.reduceToNat, Int.reduceSub, Int.reduceNeg, Int.cast_ofNat_Int]
          try simp (disch := omega) only [s1, e1, pk_us, pk_un, va_up_self, va_up_ne, nI_add, pk_mul, nI_clamp, vp_inT, nI_ltI, nI_leI, nI_eqI, pk_sub, true_and, and_true]
          refine ⟨fun q17 => by omega, fun q17 => hK _ _ _ _ ?_⟩
          refine rz_blk' [(.iload 6, 2, 0, 0), (.iload_n 3, 1, 0, 0), (.if_icmp .ge 32, 3, 0, 0)] (by decide +kernel) (Nat.le_refl _) (Nat.le_refl _) (fun K R hK hR => ?_)
          simp only [↓rx_if_icmp_ge, ↓rx_iload, ↓rx_iload_n3, ↓rx_nil, ↓ry_i2, ↓ry_li0s, ↓ry_li0z, s1, e1, rz_set, rz_nol, rz_clr, List.set_cons_zero, List.set_cons_succ, rz_tr, Nat.reduceAdd, Int.reduceAdd, Int.reduceToNat, Int.reduceSub, Int.reduceNeg, Int.cast_ofNat_Int]
          try simp (disch := omega) only [s1, e1, pk_us, pk_un, va_up_self, va_up_ne, nI_add, pk_mul, nI_clamp, vp_inT, nI_ltI, nI_leI, nI_eqI, pk_sub, true_and, and_true]
          refine ⟨fun q18 => by omega, fun q18 => hK _ _ _ _ ?_⟩
          refine rz_blk' [(.iload 4, 2, 0, 0), (.ifCond .eq 15, 3, 0, 0)] (by decide +kernel) (Nat.le_refl _) (Nat.le_refl _) (fun K R hK hR => ?_)
          simp only [↓rx_ifCond_eq, ↓rx_iload, ↓rx_nil, ↓ry_i1, ↓ry_li0s, ↓ry_li0z, s1, e1, rz_set, rz_nol, rz_clr, List.set_cons_zero, List.set_cons_succ, rz_tr, Nat.reduceAdd, Int.reduceAdd, Int.reduceToNat, Int.reduceSub, Int.reduceNeg, Int.cast_ofNat_Int]
          try simp (disch := omega) only [s1, e1, pk_us, pk_un, va_up_self, va_up_ne, nI_add, pk_mul, nI_clamp, vp_inT, nI_ltI, nI_leI, nI_eqI, pk_sub, true_and, and_true]
          refine ⟨fun q19 => hK _ _ _ _ ?_, fun q19 => by first | exact absurd rfl q19 | exact absurd trivial q19⟩
          refine rz_blk' [(.aload_n 0, 1, 0, 0), (.getfield 71, 3, 10, 22), (.iload_n 2, 1, 0, 0), (.iload 6, 2, 0, 0), (.iadd, 1, 0, 0), (.iaload, 1, 0, 0), (.goto 41, 3, 0, 0)] (by decide +kernel) (Nat.le_refl _) (Nat.le_refl _) (fun K R hK hR => ?_)
          simp only [↓rx_aload_n0, ↓rx_getfield, ↓rx_goto, ↓rx_iadd, ↓rx_iaload, ↓rx_iload, ↓rx_iload_n2, ↓rx_nil, ↓ry_i2, ↓ry_iau, ↓ry_li0s, ↓ry_li0z, ↓ry_lr0s, ↓ry_lr0z, ↓ry_obu, ↓ry_r1, ↓ry_ri, true_and, re_a22, ↓re_F22, ↓re_i22, ↓re_ob, s1, e1, rz_set, rz_nol, rz_clr, List.set_cons_zero, List.set_cons_succ, rz_tr, Nat.reduceAdd, Int.reduceAdd, Int.reduceToNat, Int.reduceSub, Int.reduceNeg, Int.cast_ofNat_Int]
          try simp (disch := omega) only [s1, e1, pk_us, pk_un, va_up_self, va_up_ne, nI_add, pk_mul, nI_clamp, vp_inT, nI_ltI, nI_leI, nI_eqI, pk_sub, true_and, and_true]
          refine hK _ _ _ _ ?_
          refine rz_blk' [(.istore 8, 2, 0, 0)] (by decide +kernel) (Nat.le_refl _) (Nat.le_refl _) (fun K R hK hR => ?_)
          simp only [↓rx_istore, ↓rx_nil, ↓ry_i1, s1, e1, rz_set, rz_nol, rz_clr, List.set_cons_zero, List.set_cons_succ, rz_tr, Nat.reduceAdd, Int.reduceAdd, Int.reduceToNat, Int.reduceSub, Int.reduceNeg, Int.cast_ofNat_Int]
          try simp (disch := omega) only [s1, e1, pk_us, pk_un, va_up_self, va_up_ne, nI_add, pk_mul, nI_clamp, vp_inT, nI_ltI, nI_leI, nI_eqI, pk_sub, true_and, and_true]
          refine hK _ _ _ _ ?_
          exact hgo
      · rcases ht with ⟨rfl, rfl⟩ | ⟨q, hq, rfl, hqt⟩
        · have hgo := hcmp (-1) (Or.inr ⟨by simp; omega, rfl⟩)
          refine rz_blk' [(.iload 7, 2, 0, 0), (.ifCond .eq 124, 3, 0, 0)] (by decide +kernel) (Nat.le_refl _) (Nat.le_refl _) (fun K R hK hR => ?_)
          simp only [↓rx_ifCond_eq, ↓rx_iload, ↓rx_nil, ↓ry_i1, ↓ry_li0s, ↓ry_li0z, s1, rz_set, rz_nol, rz_clr, List.set_cons_zero, List.set_cons_succ, rz_tr, Nat.reduceAdd, Int.reduceAdd, Int.reduceToNat, Int.reduceSub, Int.reduceNeg, Int.cast_ofNat_Int]
          try simp (disch := omega) only [s1, pk_us, pk_un, va_up_self, va_up_ne, nI_add, pk_mul, nI_clamp, vp_inT, nI_ltI, nI_leI, nI_eqI, pk_sub, true_and, and_true]
          refine ⟨fun q20 => absurd q20 (by decide), fun q20 => hK _ _ _ _ ?_⟩
          refine rz_blk' [(.iload 6, 2, 0, 0), (.aload_n 0, 1, 0, 0), (.getfield 166, 3, 10, 65), (.iload_n 1, 1, 0, 0), (.iaload, 1, 0, 0), (.if_icmp .ge 113, 3, 0, 0)] (by decide +kernel) (Nat.le_refl _) (Nat.le_refl _) (fun K R hK hR => ?_)
          simp only [↓rx_aload_n0, ↓rx_getfield, ↓rx_iaload, ↓rx_if_icmp_ge, ↓rx_iload, ↓rx_iload_n1, ↓rx_nil, ↓ry_i2, ↓ry_iau, ↓ry_li0s, ↓ry_li0z, ↓ry_lr0s, ↓ry_lr0z, ↓ry_obu, ↓ry_r1, ↓ry_ri, true_and, re_a65, ↓re_F65, ↓re_i65, ↓re_ob, s1, rz_set, rz_nol, rz_clr, List.set_cons_zero, List.set_cons_succ, rz_tr, Nat.reduceAdd, Int.reduceAdd, Int.reduceToNat, Int.reduceSub, Int.reduceNeg, Int.cast_ofNat_Int]
          try simp (disch := omega) only [s1, pk_us, pk_un, va_up_self, va_up_ne, nI_add, pk_mul, nI_clamp, vp_inT, nI_ltI, nI_leI, nI_eqI, pk_sub, true_and, and_true]
          refine ⟨fun q21 => by omega, fun q21 => hK _ _ _ _ ?_⟩
          refine rz_blk' [(.iload 6, 2, 0, 0), (.iload_n 3, 1, 0, 0), (.if_icmp .ge 32, 3, 0, 0)] (by decide +kernel) (Nat.le_refl _) (Nat.le_refl _) (fun K R hK hR => ?_)
          simp only [↓rx_if_icmp_ge, ↓rx_iload, ↓rx_iload_n3, ↓rx_nil, ↓ry_i2, ↓ry_li0s, ↓ry_li0z, s1, rz_set, rz_nol, rz_clr, List.set_cons_zero, List.set_cons_succ, rz_tr, Nat.reduceAdd, Int.reduceAdd, Int.reduceToNat, Int.reduceSub, Int.reduceNeg, Int.cast_ofNat_Int]
          try simp (disch := omega) only [s1, pk_us, pk_un, va_up_self, va_up_ne, nI_add, pk_mul, nI_clamp, vp_inT, nI_ltI, nI_leI, nI_eqI, pk_sub, true_and, and_true]
          refine ⟨fun q22 => hK _ _ _ _ ?_, fun q22 => by omega⟩
          refine rz_blk' [(.iload 5, 2, 0, 0), (.ifCond .lt 35, 3, 0, 0)] (by decide +kernel) (Nat.le_refl _) (Nat.le_refl _) (fun K R hK hR => ?_)
          simp only [↓rx_ifCond_lt, ↓rx_iload, ↓rx_nil, ↓ry_i1, ↓ry_li0s, ↓ry_li0z, s1, rz_set, rz_nol, rz_clr, List.set_cons_zero, List.set_cons_succ, rz_tr, Nat.reduceAdd, Int.reduceAdd, Int.reduceToNat, Int.reduceSub, Int.reduceNeg, Int.cast_ofNat_Int]
          try simp (disch := omega) only [s1, pk_us, pk_un, va_up_self, va_up_ne, nI_add, pk_mul, nI_clamp, vp_inT, nI_ltI, nI_leI, nI_eqI, pk_sub, true_and, and_true]
          refine ⟨fun q23 => hK _ _ _ _ ?_, fun q23 => absurd (show (-1 : Int32) < 0 by decide) q23⟩
          refine rz_blk' [(.iconst (-1), 1, 0, 0), (.istore 8, 2, 0, 0)] (by decide +kernel) (Nat.le_refl _) (Nat.le_refl _) (fun K R hK hR => ?_)
          simp only [rw_cm1, ↓rx_iconst, ↓rx_istore, ↓rx_nil, ↓ry_i1, s1, rz_set, rz_nol, rz_clr, List.set_cons_zero, List.set_cons_succ, rz_tr, Nat.reduceAdd, Int.reduceAdd, Int.reduceToNat, Int.reduceSub, Int.reduceNeg, Int.cast_ofNat_Int]
          try simp (disch := omega) only [s1, pk_us, pk_un, va_up_self, va_up_ne, nI_add, pk_mul, nI_clamp, vp_inT, nI_ltI, nI_leI, nI_eqI, pk_sub, true_and, and_true]
          refine hK _ _ _ _ ?_
          exact hgo
        · obtain ⟨t1, t2, t3, t4⟩ := hC q hq
          rw [hqt] at t1 t2 t3 t4
          have t1 : A 65 q = nI t.length := t1
          simp only [Option.getD_some] at t2 t3 t4
          by_cases cit : i - u.length < t.length
          · have hWi : (u ++ t)[i]? = some t[i - u.length] := by rw [List.getElem?_append_right (by omega), List.getElem?_eq_getElem cit]
            have hgo := hcmp (nI t[i - u.length]) (Or.inl ⟨by rw [List.length_append]; omega, _, hWi, t4 _ (List.getElem_mem cit), rfl⟩)
            have e1 := t2 (i - u.length) cit
            rw [show 32 * q + (i - u.length) = 32 * q + i - u.length by omega] at e1
            refine rz_blk' [(.iload 7, 2, 0, 0), (.ifCond .eq 124, 3, 0, 0)] (by decide +kernel) (Nat.le_refl _) (Nat.le_refl _) (fun K R hK hR => ?_)
            simp only [↓rx_ifCond_eq, ↓rx_iload, ↓rx_nil, ↓ry_i1, ↓ry_li0s, ↓ry_li0z, s1, t1, e1, rz_set, rz_nol, rz_clr, List.set_cons_zero, List.set_cons_succ, rz_tr, Nat.reduceAdd, Int.reduceAdd, Int.reduceToNat, Int.reduceSub, Int.reduceNeg, Int.cast_ofNat_Int]
            try simp (disch := omega) only [s1, t1, e1, pk_us, pk_un, va_up_self, va_up_ne, nI_add, pk_mul, nI_clamp, vp_inT, nI_ltI, nI_leI, nI_eqI, pk_sub, true_and, and_true]
            refine ⟨fun q24 => absurd q24 (by decide), fun q24 => hK _ _ _ _ ?_⟩
            refine rz_blk' [(.iload 6, 2, 0, 0), (.aload_n 0, 1, 0, 0), (.getfield 166, 3, 10, 65), (.iload_n 1, 1, 0, 0), (.iaload, 1, 0, 0), (.if_icmp .ge 113, 3, 0, 0)] (by decide +kernel) (Nat.le_refl _) (Nat.le_refl _) (fun K R hK hR => ?_)
            simp only [↓rx_aload_n0, ↓rx_getfield, ↓rx_iaload, ↓rx_if_icmp_ge, ↓rx_iload, ↓rx_iload_n1, ↓rx_nil, ↓ry_i2, ↓ry_iau, ↓ry_li0s, ↓ry_li0z, ↓ry_lr0s, ↓ry_lr0z, ↓ry_obu, ↓ry_r1, ↓ry_ri, true_and, re_a65, ↓re_F65, ↓re_i65, ↓re_ob, s1, t1, e1, rz_set, rz_nol, rz_clr, List.set_cons_zero, List.set_cons_succ, rz_tr, Nat.reduceAdd, Int.reduceAdd, Int.reduceToNat, Int.reduceSub, Int.reduceNeg, Int.cast_ofNat_Int]
            try simp (disch := omega) only [s1, t1, e1, pk_us, pk_un, va_up_self, va_up_ne, nI_add, pk_mul, nI_clamp, vp_inT, nI_ltI, nI_leI, nI_eqI, pk_sub, true_and, and_true]
            refine ⟨fun q25 => by omega, fun q25 => hK _ _ _ _ ?_⟩
            refine rz_blk' [(.iload 6, 2, 0, 0), (.iload_n 3, 1, 0, 0), (.if_icmp .ge 32, 3, 0, 0)] (by decide +kernel) (Nat.le_refl _) (Nat.le_refl _) (fun K R hK hR => ?_)
            simp only [↓rx_if_icmp_ge, ↓rx_iload, ↓rx_iload_n3, ↓rx_nil, ↓ry_i2, ↓ry_li0s, ↓ry_li0z, s1, t1, e1, rz_set, rz_nol, rz_clr, List.set_cons_zero, List.set_cons_succ, rz_tr, Nat.reduceAdd, Int.reduceAdd, Int.reduceToNat, Int.reduceSub, Int.reduceNeg, Int.cast_ofNat_Int]
            try simp (disch := omega) only [s1, t1, e1, pk_us, pk_un, va_up_self, va_up_ne, nI_add, pk_mul, nI_clamp, vp_inT, nI_ltI, nI_leI, nI_eqI, pk_sub, true_and, and_true]
            refine ⟨fun q26 => hK _ _ _ _ ?_, fun q26 => by omega⟩
            refine rz_blk' [(.iload 5, 2, 0, 0), (.ifCond .lt 35, 3, 0, 0)] (by decide +kernel) (Nat.le_refl _) (Nat.le_refl _) (fun K R hK hR => ?_)
            simp only [↓rx_ifCond_lt, ↓rx_iload, ↓rx_nil, ↓ry_i1, ↓ry_li0s, ↓ry_li0z, s1, t1, e1, rz_set, rz_nol, rz_clr, List.set_cons_zero, List.set_cons_succ, rz_tr, Nat.reduceAdd, Int.reduceAdd, Int.reduceToNat, Int.reduceSub, Int.reduceNeg, Int.cast_ofNat_Int]
            try simp (disch := omega) only [s1, t1, e1, pk_us, pk_un, va_up_self, va_up_ne, nI_add, pk_mul, nI_clamp, vp_inT, nI_ltI, nI_leI, nI_eqI, pk_sub, true_and, and_true]
            refine ⟨fun q27 => absurd q27 (nI_pos (by omega)), fun q27 => hK _ _ _ _ ?_⟩
            refine rz_blk' [(.iload 6, 2, 0, 0), (.iload_n 3, 1, 0, 0), (.isub, 1, 0, 0), (.aload_n 0, 1, 0, 0), (.getfield 166, 3, 10, 65), (.iload 5, 2, 0, 0), (.iaload, 1, 0, 0), (.if_icmp .ge 21, 3, 0, 0)] (by decide +kernel) (Nat.le_refl _) (Nat.le_refl _) (fun K R hK hR => ?_)
            simp only [↓rx_aload_n0, ↓rx_getfield, ↓rx_iaload, ↓rx_if_icmp_ge, ↓rx_iload, ↓rx_iload_n3, ↓rx_isub, ↓rx_nil, ↓ry_i2, ↓ry_iau, ↓ry_li0s, ↓ry_li0z, ↓ry_lr0s, ↓ry_lr0z, ↓ry_obu, ↓ry_r1, ↓ry_ri, true_and, re_a65, ↓re_F65, ↓re_i65, ↓re_ob, s1, t1, e1, rz_set, rz_nol, rz_clr, List.set_cons_zero, List.set_cons_succ, rz_tr, Nat.reduceAdd, Int.reduceAdd, Int.reduceToNat, Int.reduceSub, Int.reduceNeg, Int.cast_ofNat_Int]
            try simp (disch := omega) only [s1, t1, e1, pk_us, pk_un, va_up_self, va_up_ne, nI_add, pk_mul, nI_clamp, vp_inT, nI_ltI, nI_leI, nI_eqI, pk_sub, true_and, and_true]
            refine ⟨fun q28 => by omega, fun q28 => hK _ _ _ _ ?_⟩
            refine rz_blk' [(.aload_n 0, 1, 0, 0), (.getfield 169, 3, 10, 66), (.bipush 32, 2, 0, 0), (.iload 5, 2, 0, 0), (.imul, 1, 0, 0), (.iload 6, 2, 0, 0), (.iadd, 1, 0, 0), (.iload_n 3, 1, 0, 0), (.isub, 1, 0, 0), (.iaload, 1, 0, 0), (.goto 4, 3, 0, 0)] (by decide +kernel) (Nat.le_refl _) (Nat.le_refl _) (fun K R hK hR => ?_)
            simp only [rw_b32, ↓rx_aload_n0, ↓rx_bipush, ↓rx_getfield, ↓rx_goto, ↓rx_iadd, ↓rx_iaload, ↓rx_iload, ↓rx_iload_n3, ↓rx_imul, ↓rx_isub, ↓rx_nil, ↓ry_i2, ↓ry_iau, ↓ry_li0s, ↓ry_li0z, ↓ry_lr0s, ↓ry_lr0z, ↓ry_obu, ↓ry_r1, ↓ry_ri, true_and, re_a66, ↓re_F66, ↓re_i66, ↓re_ob, s1, t1, e1, rz_set, rz_nol, rz_clr, List.set_cons_zero, List.set_cons_succ, rz_tr, Nat.reduceAdd, Int.reduceAdd, Int.reduceToNat, Int.reduceSub, Int.reduceNeg, Int.cast_ofNat_Int]
            try simp (disch := omega) only [s1, t1, e1, pk_us, pk_un, va_up_self, va_up_ne, nI_add, pk_mul, nI_clamp, vp_inT, nI_ltI, nI_leI, nI_eqI, pk_sub, true_and, and_true]
            refine hK _ _ _ _ ?_
            refine rz_blk' [(.istore 8, 2, 0, 0)] (by decide +kernel) (Nat.le_refl _) (Nat.le_refl _) (fun K R hK hR => ?_)
            simp only [↓rx_istore, ↓rx_nil, ↓ry_i1, s1, t1, e1, rz_set, rz_nol, rz_clr, List.set_cons_zero, List.set_cons_succ, rz_tr, Nat.reduceAdd, Int.reduceAdd, Int.reduceToNat, Int.reduceSub, Int.reduceNeg, Int.cast_ofNat_Int]
            try simp (disch := omega) only [s1, t1, e1, pk_us, pk_un, va_up_self, va_up_ne, nI_add, pk_mul, nI_clamp, vp_inT, nI_ltI, nI_leI, nI_eqI, pk_sub, true_and, and_true]
            refine hK _ _ _ _ ?_
            exact hgo
          · have hgo := hcmp (-1) (Or.inr ⟨by rw [List.length_append]; omega, rfl⟩)
            refine rz_blk' [(.iload 7, 2, 0, 0), (.ifCond .eq 124, 3, 0, 0)] (by decide +kernel) (Nat.le_refl _) (Nat.le_refl _) (fun K R hK hR => ?_)
            simp only [↓rx_ifCond_eq, ↓rx_iload, ↓rx_nil, ↓ry_i1, ↓ry_li0s, ↓ry_li0z, s1, t1, rz_set, rz_nol, rz_clr, List.set_cons_zero, List.set_cons_succ, rz_tr, Nat.reduceAdd, Int.reduceAdd, Int.reduceToNat, Int.reduceSub, Int.reduceNeg, Int.cast_ofNat_Int]
            try simp (disch := omega) only [s1, t1, pk_us, pk_un, va_up_self, va_up_ne, nI_add, pk_mul, nI_clamp, vp_inT, nI_ltI, nI_leI, nI_eqI, pk_sub, true_and, and_true]
            refine ⟨fun q29 => absurd q29 (by decide), fun q29 => hK _ _ _ _ ?_⟩
            refine rz_blk' [(.iload 6, 2, 0, 0), (.aload_n 0, 1, 0, 0), (.getfield 166, 3, 10, 65), (.iload_n 1, 1, 0, 0), (.iaload, 1, 0, 0), (.if_icmp .ge 113, 3, 0, 0)] (by decide +kernel) (Nat.le_refl _) (Nat.le_refl _) (fun K R hK hR => ?_)
            simp only [↓rx_aload_n0, ↓rx_getfield, ↓rx_iaload, ↓rx_if_icmp_ge, ↓rx_iload, ↓rx_iload_n1, ↓rx_nil, ↓ry_i2, ↓ry_iau, ↓ry_li0s, ↓ry_li0z, ↓ry_lr0s, ↓ry_lr0z, ↓ry_obu, ↓ry_r1, ↓ry_ri, true_and, re_a65, ↓re_F65, ↓re_i65, ↓re_ob, s1, t1, rz_set, rz_nol, rz_clr, List.set_cons_zero, List.set_cons_succ, rz_tr, Nat.reduceAdd, Int.reduceAdd, Int.reduceToNat, Int.reduceSub, Int.reduceNeg, Int.cast_ofNat_Int]
            try simp (disch := omega) only [s1, t1, pk_us, pk_un, va_up_self, va_up_ne, nI_add, pk_mul, nI_clamp, vp_inT, nI_ltI, nI_leI, nI_eqI, pk_sub, true_and, and_true]
            refine ⟨fun q30 => by omega, fun q30 => hK _ _ _ _ ?_⟩
            refine rz_blk' [(.iload 6, 2, 0, 0), (.iload_n 3, 1, 0, 0), (.if_icmp .ge 32, 3, 0, 0)] (by decide +kernel) (Nat.le_refl _) (Nat.le_refl _) (fun K R hK hR => ?_)
            simp only [↓rx_if_icmp_ge, ↓rx_iload, ↓rx_iload_n3, ↓rx_nil, ↓ry_i2, ↓ry_li0s, ↓ry_li0z, s1, t1, rz_set, rz_nol, rz_clr, List.set_cons_zero, List.set_cons_succ, rz_tr, Nat.reduceAdd, Int.reduceAdd, Int.reduceToNat, Int.reduceSub, Int.reduceNeg, Int.cast_ofNat_Int]
            try simp (disch := omega) only [s1, t1, pk_us, pk_un, va_up_self, va_up_ne, nI_add, pk_mul, nI_clamp, vp_inT, nI_ltI, nI_leI, nI_eqI, pk_sub, true_and, and_true]
            refine ⟨fun q31 => hK _ _ _ _ ?_, fun q31 => by omega⟩
            refine rz_blk' [(.iload 5, 2, 0, 0), (.ifCond .lt 35, 3, 0, 0)] (by decide +kernel) (Nat.le_refl _) (Nat.le_refl _) (fun K R hK hR => ?_)
            simp only [↓rx_ifCond_lt, ↓rx_iload, ↓rx_nil, ↓ry_i1, ↓ry_li0s, ↓ry_li0z, s1, t1, rz_set, rz_nol, rz_clr, List.set_cons_zero, List.set_cons_succ, rz_tr, Nat.reduceAdd, Int.reduceAdd, Int.reduceToNat, Int.reduceSub, Int.reduceNeg, Int.cast_ofNat_Int]
            try simp (disch := omega) only [s1, t1, pk_us, pk_un, va_up_self, va_up_ne, nI_add, pk_mul, nI_clamp, vp_inT, nI_ltI, nI_leI, nI_eqI, pk_sub, true_and, and_true]
            refine ⟨fun q32 => absurd q32 (nI_pos (by omega)), fun q32 => hK _ _ _ _ ?_⟩
            refine rz_blk' [(.iload 6, 2, 0, 0), (.iload_n 3, 1, 0, 0), (.isub, 1, 0, 0), (.aload_n 0, 1, 0, 0), (.getfield 166, 3, 10, 65), (.iload 5, 2, 0, 0), (.iaload, 1, 0, 0), (.if_icmp .ge 21, 3, 0, 0)] (by decide +kernel) (Nat.le_refl _) (Nat.le_refl _) (fun K R hK hR => ?_)
            simp only [↓rx_aload_n0, ↓rx_getfield, ↓rx_iaload, ↓rx_if_icmp_ge, ↓rx_iload, ↓rx_iload_n3, ↓rx_isub, ↓rx_nil, ↓ry_i2, ↓ry_iau, ↓ry_li0s, ↓ry_li0z, ↓ry_lr0s, ↓ry_lr0z, ↓ry_obu, ↓ry_r1, ↓ry_ri, true_and, re_a65, ↓re_F65, ↓re_i65, ↓re_ob, s1, t1, rz_set, rz_nol, rz_clr, List.set_cons_zero, List.set_cons_succ, rz_tr, Nat.reduceAdd, Int.reduceAdd, Int.reduceToNat, Int.reduceSub, Int.reduceNeg, Int.cast_ofNat_Int]
            try simp (disch := omega) only [s1, t1, pk_us, pk_un, va_up_self, va_up_ne, nI_add, pk_mul, nI_clamp, vp_inT, nI_ltI, nI_leI, nI_eqI, pk_sub, true_and, and_true]
            refine ⟨fun q33 => hK _ _ _ _ ?_, fun q33 => by omega⟩
            refine rz_blk' [(.iconst (-1), 1, 0, 0), (.istore 8, 2, 0, 0)] (by decide +kernel) (Nat.le_refl _) (Nat.le_refl _) (fun K R hK hR => ?_)
            simp only [rw_cm1, ↓rx_iconst, ↓rx_istore, ↓rx_nil, ↓ry_i1, s1, t1, rz_set, rz_nol, rz_clr, List.set_cons_zero, List.set_cons_succ, rz_tr, Nat.reduceAdd, Int.reduceAdd, Int.reduceToNat, Int.reduceSub, Int.reduceNeg, Int.cast_ofNat_Int]
            try simp (disch := omega) only [s1, t1, pk_us, pk_un, va_up_self, va_up_ne, nI_add, pk_mul, nI_clamp, vp_inT, nI_ltI, nI_leI, nI_eqI, pk_sub, true_and, and_true]
            refine hK _ _ _ _ ?_
            exact hgo
  refine rz_enter' [some (.ref a), some (.int (nI s)), some (.int (nI o)), some (.int (nI u.length)), some (.int (rz_b b)), some (.int th), none, none, none] (by decide +kernel) rfl rfl (Nat.le_of_ble_eq_true rfl) rfl ?_
  refine rz_blk' [(.iconst 0, 1, 0, 0), (.istore 6, 2, 0, 0)] (by decide +kernel) (Nat.le_refl _) (Nat.le_refl _) (fun K R hK hR => ?_)
  simp only [rw_c0, ↓rx_iconst, ↓rx_istore, ↓rx_nil, ↓ry_i1, rz_set, rz_nol, rz_clr, List.set_cons_zero, List.set_cons_succ, rz_tr, Nat.reduceAdd, Int.reduceAdd, Int.reduceToNat, Int.reduceSub, Int.reduceNeg, Int.cast_ofNat_Int]
  try simp (disch := omega) only [pk_us, pk_un, va_up_self, va_up_ne, nI_add, pk_mul, nI_clamp, vp_inT, nI_ltI, nI_leI, nI_eqI, pk_sub, true_and, and_true]
  refine hK _ _ _ _ ?_
  refine rz_blk' [(.iconst 1, 1, 0, 0), (.istore 7, 2, 0, 0)] (by decide +kernel) (Nat.le_refl _) (Nat.le_refl _) (fun K R hK hR => ?_)
  simp only [rw_c1, ↓rx_iconst, ↓rx_istore, ↓rx_nil, ↓ry_i1, rz_set, rz_nol, rz_clr, List.set_cons_zero, List.set_cons_succ, rz_tr, Nat.reduceAdd, Int.reduceAdd, Int.reduceToNat, Int.reduceSub, Int.reduceNeg, Int.cast_ofNat_Int]
  try simp (disch := omega) only [pk_us, pk_un, va_up_self, va_up_ne, nI_add, pk_mul, nI_clamp, vp_inT, nI_ltI, nI_leI, nI_eqI, pk_sub, true_and, and_true]
  refine hK _ _ _ _ ?_
  exact lp h.length 0 _ (Nat.zero_add _) (Nat.zero_le _) (fun k hk => absurd hk (Nat.not_lt_zero _))
set_option maxRecDepth 100000 in
set_option maxHeartbeats 4000000 in
theorem c_Mod_someOutputs {w : rz_w} {d : Nat} {G : rz_G} {a : Nat} {I : Nat → Int32} {A : Nat → Nat → Int32} {T : mv_T} (t : re_t A 0 T) (w1 : tw T 3) : rz_C w d 0 0 y_Mod_someOutputs m_Mod_someOutputs [.ref a] (re_put G a I A) (fun (r : Option Value) (G' : rz_G) => r = none ∧ ∃ A' C, G' = re_put G a I A' ∧ fa [65, 66] A A' ∧ cm_is A' C ∧ (∀ s o, s < 6 → C s = some o → xo T s o) ∧ ∀ s o, s < 6 → xo T s o → C s ≠ none) := by
  generalize hQ : (fun (r : Option Value) (G' : rz_G) => r = none ∧ ∃ A' C, G' = re_put G a I A' ∧ fa [65, 66] A A' ∧ cm_is A' C ∧ (∀ s o, s < 6 → C s = some o → xo T s o) ∧ ∀ s o, s < 6 → xo T s o → C s ≠ none) = Q
  have hl := w1.2.1
  have wl : ∀ (n : Nat) (A0 : Nat → Nat → Int32) (C0 : Nat → Option (List Nat)) (z2 z3 z4 z5 : Option Value), 7 - cm_k C0 ≤ n → fa [65, 66] A A0 → cm_is A0 C0 → (∀ s o, s < 6 → C0 s = some o → xo T s o ∧ o.length ≤ 3 * cm_k C0) → (∀ s f, s < 6 → T.2.2.1 s = some f → C0 s ≠ none) → rz_T w d 0 0 m_Mod_someOutputs 0 0 68 [some (.ref a), some (.int (rz_b true)), z2, z3, z4, z5] [] (re_put G a I A0) Q := by
    intro n
    induction n with
    | zero =>
      intro A0 C0 z2 z3 z4 z5 hn
      have := cm_k6 (C := C0)
      omega
    | succ n ih =>
      intro A0 C0 z2 z3 z4 z5 hn kf0 kc0 ko0 ke0
      have el : ∀ (j e : Nat) (A1 : Nat → Nat → Int32) (C : Nat → Option (List Nat)) (b : Bool) (z3 z4 z5 : Option Value), e + j = T.2.1.length → fa [65, 66] A A1 → cm_is A1 C → (∀ s o, s < 6 → C s = some o → xo T s o ∧ o.length ≤ 3 * cm_k C) → (∀ s, s < 6 → C0 s ≠ none → C s ≠ none) → (b = true → cm_k C0 < cm_k C) → (b = false → (∀ s, s < 6 → C s = C0 s) ∧ ∀ i (hi : i < T.2.1.length), i < e → C0 T.2.1[i].2.2.1 ≠ none → C0 T.2.1[i].1 ≠ none) → rz_T w d 0 0 m_Mod_someOutputs 0 0 72 [some (.ref a), some (.int (rz_b b)), some (.int (nI e)), z3, z4, z5] [] (re_put G a I A1) Q := by
        intro j
        induction j with
        | zero =>
          intro e A1 C b z3 z4 z5 hej kf kc ko ks k1 k0
          obtain ⟨-, r2, -⟩ := re_t_fa t kf rfl
          cases b with
          | true =>
            refine rz_blk' [(.iload_n 2, 1, 0, 0), (.aload_n 0, 1, 0, 0), (.getfield 50, 3, 10, 15), (.iconst 0, 1, 0, 0), (.iaload, 1, 0, 0), (.if_icmp .ge 162, 3, 0, 0)] (by decide +kernel) (Nat.le_refl _) (Nat.le_refl _) (fun K R hK hR => ?_)
            simp only [rw_c0, ↓rx_aload_n0, ↓rx_getfield, ↓rx_iaload, ↓rx_iconst, ↓rx_if_icmp_ge, ↓rx_iload_n2, ↓rx_nil, ↓ry_i2, ↓ry_iau, ↓ry_li0s, ↓ry_li0z, ↓ry_lr0s, ↓ry_lr0z, ↓ry_obu, ↓ry_r1, ↓ry_ri, true_and, re_a15, ↓re_F15, ↓re_i15, ↓re_ob, r2, rz_set, rz_nol, rz_clr, List.set_cons_zero, List.set_cons_succ, rz_tr, Nat.reduceAdd, Int.reduceAdd, Int.reduceToNat, Int.reduceSub, Int.reduceNeg, Int.cast_ofNat_Int]
            try simp (disch := omega) only [r2, pk_us, pk_un, va_up_self, va_up_ne, nI_add, pk_mul, nI_clamp, vp_inT, nI_ltI, nI_leI, nI_eqI, pk_sub, true_and, and_true]
            refine ⟨fun q1 => hK _ _ _ _ ?_, fun q1 => by omega⟩
            refine rz_blk' [(.goto (-177), 3, 0, 0)] (by decide +kernel) (Nat.le_refl _) (Nat.le_refl _) (fun K R hK hR => ?_)
            simp only [↓rx_goto, ↓rx_nil, r2, rz_set, rz_nol, rz_clr, List.set_cons_zero, List.set_cons_succ, rz_tr, Nat.reduceAdd, Int.reduceAdd, Int.reduceToNat, Int.reduceSub, Int.reduceNeg, Int.cast_ofNat_Int]
            try simp (disch := omega) only [r2, pk_us, pk_un, va_up_self, va_up_ne, nI_add, pk_mul, nI_clamp, vp_inT, nI_ltI, nI_leI, nI_eqI, pk_sub, true_and, and_true]
            refine hK _ _ _ _ ?_
            refine rz_blk' [(.iload_n 1, 1, 0, 0), (.ifCond .eq 179, 3, 0, 0)] (by decide +kernel) (Nat.le_refl _) (Nat.le_refl _) (fun K R hK hR => ?_)
            simp only [↓rx_ifCond_eq, ↓rx_iload_n1, ↓rx_nil, ↓ry_i1, ↓ry_li0s, ↓ry_li0z, r2, rz_set, rz_nol, rz_clr, List.set_cons_zero, List.set_cons_succ, rz_tr, Nat.reduceAdd, Int.reduceAdd, Int.reduceToNat, Int.reduceSub, Int.reduceNeg, Int.cast_ofNat_Int]
            try simp (disch := omega) only [r2, pk_us, pk_un, va_up_self, va_up_ne, nI_add, pk_mul, nI_clamp, vp_inT, nI_ltI, nI_leI, nI_eqI, pk_sub, true_and, and_true]
            refine ⟨fun q2 => absurd q2 (by decide), fun q2 => hK _ _ _ _ ?_⟩
            exact ih A1 C _ _ _ _ (by have := k1 rfl; omega) kf kc ko (fun s f hs hf => ks s hs (ke0 s f hs hf))
          | false =>
            refine rz_blk' [(.iload_n 2, 1, 0, 0), (.aload_n 0, 1, 0, 0), (.getfield 50, 3, 10, 15), (.iconst 0, 1, 0, 0), (.iaload, 1, 0, 0), (.if_icmp .ge 162, 3, 0, 0)] (by decide +kernel) (Nat.le_refl _) (Nat.le_refl _) (fun K R hK hR => ?_)
            simp only [rw_c0, ↓rx_aload_n0, ↓rx_getfield, ↓rx_iaload, ↓rx_iconst, ↓rx_if_icmp_ge, ↓rx_iload_n2, ↓rx_nil, ↓ry_i2, ↓ry_iau, ↓ry_li0s, ↓ry_li0z, ↓ry_lr0s, ↓ry_lr0z, ↓ry_obu, ↓ry_r1, ↓ry_ri, true_and, re_a15, ↓re_F15, ↓re_i15, ↓re_ob, r2, rz_set, rz_nol, rz_clr, List.set_cons_zero, List.set_cons_succ, rz_tr, Nat.reduceAdd, Int.reduceAdd, Int.reduceToNat, Int.reduceSub, Int.reduceNeg, Int.cast_ofNat_Int]
            try simp (disch := omega) only [r2, pk_us, pk_un, va_up_self, va_up_ne, nI_add, pk_mul, nI_clamp, vp_inT, nI_ltI, nI_leI, nI_eqI, pk_sub, true_and, and_true]
            refine ⟨fun q3 => hK _ _ _ _ ?_, fun q3 => by omega⟩
            refine rz_blk' [(.goto (-177), 3, 0, 0)] (by decide +kernel) (Nat.le_refl _) (Nat.le_refl _) (fun K R hK hR => ?_)
            simp only [↓rx_goto, ↓rx_nil, r2, rz_set, rz_nol, rz_clr, List.set_cons_zero, List.set_cons_succ, rz_tr, Nat.reduceAdd, Int.reduceAdd, Int.reduceToNat, Int.reduceSub, Int.reduceNeg, Int.cast_ofNat_Int]
            try simp (disch := omega) only [r2, pk_us, pk_un, va_up_self, va_up_ne, nI_add, pk_mul, nI_clamp, vp_inT, nI_ltI, nI_leI, nI_eqI, pk_sub, true_and, and_true]
            refine hK _ _ _ _ ?_
            refine rz_blk' [(.iload_n 1, 1, 0, 0), (.ifCond .eq 179, 3, 0, 0)] (by decide +kernel) (Nat.le_refl _) (Nat.le_refl _) (fun K R hK hR => ?_)
            simp only [↓rx_ifCond_eq, ↓rx_iload_n1, ↓rx_nil, ↓ry_i1, ↓ry_li0s, ↓ry_li0z, r2, rz_set, rz_nol, rz_clr, List.set_cons_zero, List.set_cons_succ, rz_tr, Nat.reduceAdd, Int.reduceAdd, Int.reduceToNat, Int.reduceSub, Int.reduceNeg, Int.cast_ofNat_Int]
            try simp (disch := omega) only [r2, pk_us, pk_un, va_up_self, va_up_ne, nI_add, pk_mul, nI_clamp, vp_inT, nI_ltI, nI_leI, nI_eqI, pk_sub, true_and, and_true]
            refine ⟨fun q4 => hK _ _ _ _ ?_, fun q4 => by first | exact absurd rfl q4 | exact absurd trivial q4⟩
            refine rz_blk' [(.return_, 1, 0, 0)] (by decide +kernel) (Nat.le_refl _) (Nat.le_refl _) (fun K R hK hR => ?_)
            simp only [↓rx_nil, ↓rx_return_, r2, rz_set, rz_nol, rz_clr, List.set_cons_zero, List.set_cons_succ, rz_tr, Nat.reduceAdd, Int.reduceAdd, Int.reduceToNat, Int.reduceSub, Int.reduceNeg, Int.cast_ofNat_Int]
            try simp (disch := omega) only [r2, pk_us, pk_un, va_up_self, va_up_ne, nI_add, pk_mul, nI_clamp, vp_inT, nI_ltI, nI_leI, nI_eqI, pk_sub, true_and, and_true]
            refine hR _ _ (rz_nb_i (by decide)) ?_
            rw [← hQ]
            obtain ⟨z1, z2⟩ := k0 rfl
            refine ⟨rfl, A1, C, rfl, kf, kc, fun s o hs ho => (ko s o hs ho).1, fun s o hs ho => ?_⟩
            refine xo_ind (P := fun s _ => s < 6 → C s ≠ none) (fun s f hf hs => ks s hs (ke0 s f hs hf)) (fun x hx o' hP hs => ?_) ho hs
            obtain ⟨i, hi, rfl⟩ := List.mem_iff_getElem.mp hx
            have b1 := tw_e w1 hi
            rw [z1 _ hs]
            refine z2 i hi (by omega) ?_
            rw [← z1 _ b1.2.2.1]
            exact hP b1.2.2.1
        | succ j ihe =>
          intro e A1 C b z3 z4 z5 hej kf kc ko ks k1 k0
          obtain ⟨-, r2, u3, -⟩ := re_t_fa t kf rfl
          have heT : e < T.2.1.length := by omega
          obtain ⟨a1, a2, a3, a4, a5⟩ := u3 e heT
          rw [Nat.mul_zero, Nat.zero_add] at a1 a2 a3 a4 a5
          obtain ⟨x1, x2, x3, x4, x5⟩ := tw_e w1 heT
          obtain ⟨p1, p2, p3, p4⟩ := kc _ x1
          obtain ⟨q1, q2, q3, q4⟩ := kc _ x3
          have s1 := os_lt' p3
          have s1b := os_ge s1
          have s2 := os_lt' q3
          have hskip : (C T.2.1[e].1 ≠ none ∨ C T.2.1[e].2.2.1 = none) → ∀ z3 z4 z5, rz_T w d 0 0 m_Mod_someOutputs 0 0 72 [some (.ref a), some (.int (rz_b b)), some (.int (nI (e + 1))), z3, z4, z5] [] (re_put G a I A1) Q := by
            intro hq z3 z4 z5
            refine ihe (e + 1) A1 C b z3 z4 z5 (by omega) kf kc ko ks k1 (fun hb => ⟨(k0 hb).1, fun i hi hie hc => ?_⟩)
            by_cases ci : i = e
            · subst ci
              rw [← (k0 hb).1 _ x3] at hc
              rw [← (k0 hb).1 _ x1]
              rcases hq with q | q
              · exact q
              · exact absurd q hc
            · exact (k0 hb).2 i hi (by omega) hc
          have hadd : C T.2.1[e].1 = none → ∀ g, C T.2.1[e].2.2.1 = some g → rz_T w d 0 0 m_Mod_someOutputs 0 0 116 [some (.ref a), some (.int (rz_b b)), some (.int (nI e)), some (.int (nI T.2.1[e].1)), some (.int (nI T.2.1[e].2.2.1)), z5] [] (re_put G a I A1) Q := by
            intro hn1 g hg
            rw [hg] at q1 q2 q3 q4
            have q1 : A1 65 T.2.1[e].2.2.1 = nI g.length := q1
            simp only [Option.getD_some] at q2 q3 q4
            have hne : T.2.1[e].1 ≠ T.2.1[e].2.2.1 := fun q => by rw [q, hg] at hn1; cases hn1
            generalize hvv : T.2.1[e].2.2.2 = v at *
            generalize hfa : T.2.1[e].1 = fa0 at *
            generalize hto : T.2.1[e].2.2.1 = to0 at *
            generalize hB1 : va_up A1 66 (cp (A1 66) (32 * fa0) (A1 20) (32 * e) v.length) = B1
            have hB1o : ∀ f, f ≠ 66 → B1 f = A1 f := fun f hf => by rw [← hB1, va_up_ne _ _ hf]
            have hB166 : B1 66 = cp (A1 66) (32 * fa0) (A1 20) (32 * e) v.length := by rw [← hB1, va_up_self]
            have f65 := hB1o 65 (by decide)
            have f19 := hB1o 19 (by decide)
            have hko := ko to0 g x3 hg
            have hkk := cm_k6 (C := C)
            have hkn : cm_k C < 6 := by
              have := cm_k_up (C := C) (w := []) x1 hn1
              have := cm_k6 (C := cm_up C fa0 [])
              omega
            have c1 : ∀ (B : Nat → Nat → Int32) , B 19 e = nI v.length → rz_T w d 0 0 m_Mod_someOutputs 0 0 160 [some (.ref a), some (.int (rz_b b)), some (.int (nI e)), some (.int (nI fa0)), some (.int (nI to0)), some (.int (nI (v.length)))] [] (re_put G a I (va_up B 66 (cp (B 66) (32 * fa0) (B 20) (32 * e) (v.length)))) Q → rz_T w d 0 0 m_Mod_someOutputs 0 0 119 [some (.ref a), some (.int (rz_b b)), some (.int (nI e)), some (.int (nI fa0)), some (.int (nI to0)), some (.int (nI 0))] [] (re_put G a I B) Q := by
              intro B  b19 hx
              have lp : ∀ (cj cx : Nat), cx + cj = v.length → rz_T w d 0 0 m_Mod_someOutputs 0 0 119 [some (.ref a), some (.int (rz_b b)), some (.int (nI e)), some (.int (nI fa0)), some (.int (nI to0)), some (.int (nI cx))] [] (re_put G a I (va_up B 66 (cp (B 66) (32 * fa0) (B 20) (32 * e) cx))) Q := by
                intro cj
                induction cj with
                | zero =>
                  intro cx hij
                  have hi : cx = v.length := by omega
                  subst hi
                  refine rz_blk' [(.iload 5, 2, 0, 0), (.aload_n 0, 1, 0, 0), (.getfield 62, 3, 10, 19), (.iload_n 2, 1, 0, 0), (.iaload, 1, 0, 0), (.if_icmp .ge 33, 3, 0, 0)] (by decide +kernel) (Nat.le_refl _) (Nat.le_refl _) (fun K R hK hR => ?_)
                  simp only [↓rx_aload_n0, ↓rx_getfield, ↓rx_iaload, ↓rx_if_icmp_ge, ↓rx_iload, ↓rx_iload_n2, ↓rx_nil, ↓ry_i2, ↓ry_iau, ↓ry_li0s, ↓ry_li0z, ↓ry_lr0s, ↓ry_lr0z, ↓ry_obu, ↓ry_r1, ↓ry_ri, true_and, re_a19, ↓re_F19, ↓re_i19, ↓re_ob, b19, rz_set, rz_nol, rz_clr, List.set_cons_zero, List.set_cons_succ, rz_tr, Nat.reduceAdd, Int.reduceAdd, Int.reduceToNat, Int.reduceSub, Int.reduceNeg, Int.cast_ofNat_Int]
                  try simp (disch := omega) only [b19, pk_us, pk_un, va_up_self, va_up_ne, nI_add, pk_mul, nI_clamp, vp_inT, nI_ltI, nI_leI, nI_eqI, pk_sub, true_and, and_true]
                  refine ⟨fun q5 => hK _ _ _ _ ?_, fun q5 => by omega⟩
                  exact hx
                | succ cj ih =>
                  intro cx hij
                  refine rz_blk' [(.iload 5, 2, 0, 0), (.aload_n 0, 1, 0, 0), (.getfield 62, 3, 10, 19), (.iload_n 2, 1, 0, 0), (.iaload, 1, 0, 0), (.if_icmp .ge 33, 3, 0, 0)] (by decide +kernel) (Nat.le_refl _) (Nat.le_refl _) (fun K R hK hR => ?_)
                  simp only [↓rx_aload_n0, ↓rx_getfield, ↓rx_iaload, ↓rx_if_icmp_ge, ↓rx_iload, ↓rx_iload_n2, ↓rx_nil, ↓ry_i2, ↓ry_iau, ↓ry_li0s, ↓ry_li0z, ↓ry_lr0s, ↓ry_lr0z, ↓ry_obu, ↓ry_r1, ↓ry_ri, true_and, re_a19, ↓re_F19, ↓re_i19, ↓re_ob, b19, rz_set, rz_nol, rz_clr, List.set_cons_zero, List.set_cons_succ, rz_tr, Nat.reduceAdd, Int.reduceAdd, Int.reduceToNat, Int.reduceSub, Int.reduceNeg, Int.cast_ofNat_Int]
                  try simp (disch := omega) only [b19, pk_us, pk_un, va_up_self, va_up_ne, nI_add, pk_mul, nI_clamp, vp_inT, nI_ltI, nI_leI, nI_eqI, pk_sub, true_and, and_true]
                  refine ⟨fun q6 => by omega, fun q6 => hK _ _ _ _ ?_⟩
                  refine rz_blk' [(.aload_n 0, 1, 0, 0), (.getfield 169, 3, 10, 66), (.bipush 32, 2, 0, 0), (.iload_n 3, 1, 0, 0), (.imul, 1, 0, 0), (.iload 5, 2, 0, 0), (.iadd, 1, 0, 0), (.aload_n 0, 1, 0, 0), (.getfield 65, 3, 10, 20), (.bipush 32, 2, 0, 0), (.iload_n 2, 1, 0, 0), (.imul, 1, 0, 0), (.iload 5, 2, 0, 0), (.iadd, 1, 0, 0), (.iaload, 1, 0, 0), (.iastore, 1, 0, 0)] (by decide +kernel) (Nat.le_refl _) (Nat.le_refl _) (fun K R hK hR => ?_)
                  simp only [rw_b32, ↓rx_aload_n0, ↓rx_bipush, ↓rx_getfield, ↓rx_iadd, ↓rx_iaload, ↓rx_iastore, ↓rx_iload, ↓rx_iload_n2, ↓rx_iload_n3, ↓rx_imul, ↓rx_nil, ↓ry_i2, ↓ry_iau, ↓ry_li0s, ↓ry_li0z, ↓ry_lr0s, ↓ry_lr0z, ↓ry_obu, ↓ry_r1, ↓ry_ri, ↓ry_rii, true_and, re_a20, re_a66, ↓re_F20, ↓re_F66, ↓re_i20, ↓re_i66, ↓re_ob, b19, rz_set, rz_nol, rz_clr, List.set_cons_zero, List.set_cons_succ, rz_tr, Nat.reduceAdd, Int.reduceAdd, Int.reduceToNat, Int.reduceSub, Int.reduceNeg, Int.cast_ofNat_Int]
                  try simp (disch := omega) only [b19, pk_us, pk_un, va_up_self, va_up_ne, nI_add, pk_mul, nI_clamp, vp_inT, nI_ltI, nI_leI, nI_eqI, pk_sub, true_and, and_true]
                  refine hK _ _ _ _ ?_
                  refine rz_blk' [(.iinc 5 1, 3, 0, 0)] (by decide +kernel) (Nat.le_refl _) (Nat.le_refl _) (fun K R hK hR => ?_)
                  simp only [rw_c1, ↓rx_iinc, ↓rx_nil, ↓ry_li0s, ↓ry_li0z, b19, rz_set, rz_nol, rz_clr, List.set_cons_zero, List.set_cons_succ, rz_tr, Nat.reduceAdd, Int.reduceAdd, Int.reduceToNat, Int.reduceSub, Int.reduceNeg, Int.cast_ofNat_Int]
                  try simp (disch := omega) only [b19, pk_us, pk_un, va_up_self, va_up_ne, nI_add, pk_mul, nI_clamp, vp_inT, nI_ltI, nI_leI, nI_eqI, pk_sub, true_and, and_true]
                  refine hK _ _ _ _ ?_
                  refine rz_blk' [(.goto (-38), 3, 0, 0)] (by decide +kernel) (Nat.le_refl _) (Nat.le_refl _) (fun K R hK hR => ?_)
                  simp only [↓rx_goto, ↓rx_nil, b19, rz_set, rz_nol, rz_clr, List.set_cons_zero, List.set_cons_succ, rz_tr, Nat.reduceAdd, Int.reduceAdd, Int.reduceToNat, Int.reduceSub, Int.reduceNeg, Int.cast_ofNat_Int]
                  try simp (disch := omega) only [b19, pk_us, pk_un, va_up_self, va_up_ne, nI_add, pk_mul, nI_clamp, vp_inT, nI_ltI, nI_leI, nI_eqI, pk_sub, true_and, and_true]
                  refine hK _ _ _ _ ?_
                  have ih := ih (cx + 1) (by omega)
                  rw [← cp_s] at ih
                  rw [re_vv]
                  exact ih
              have := lp (v.length) 0 (Nat.zero_add _)
              rw [cp_0, re_ve] at this
              exact this
            have c2 : ∀ (j i : Nat), i + j = g.length → rz_T w d 0 0 m_Mod_someOutputs 0 0 163 [some (.ref a), some (.int (rz_b b)), some (.int (nI e)), some (.int (nI fa0)), some (.int (nI to0)), some (.int (nI i))] [] (re_put G a I (va_up B1 66 (cp (B1 66) (32 * fa0 + v.length) (wsg g) 0 i))) Q := by
              intro j
              induction j with
              | zero =>
                intro i hij
                have hi : i = g.length := by omega
                subst hi
                refine rz_blk' [(.iload 5, 2, 0, 0), (.aload_n 0, 1, 0, 0), (.getfield 166, 3, 10, 65), (.iload 4, 2, 0, 0), (.iaload, 1, 0, 0), (.if_icmp .ge 41, 3, 0, 0)] (by decide +kernel) (Nat.le_refl _) (Nat.le_refl _) (fun K R hK hR => ?_)
                simp only [↓rx_aload_n0, ↓rx_getfield, ↓rx_iaload, ↓rx_if_icmp_ge, ↓rx_iload, ↓rx_nil, ↓ry_i2, ↓ry_iau, ↓ry_li0s, ↓ry_li0z, ↓ry_lr0s, ↓ry_lr0z, ↓ry_obu, ↓ry_r1, ↓ry_ri, true_and, re_a65, ↓re_F65, ↓re_i65, ↓re_ob, f65, f19, q1, a4, re_a65, ↓re_i65, rz_set, rz_nol, rz_clr, List.set_cons_zero, List.set_cons_succ, rz_tr, Nat.reduceAdd, Int.reduceAdd, Int.reduceToNat, Int.reduceSub, Int.reduceNeg, Int.cast_ofNat_Int]
                try simp (disch := omega) only [f65, f19, q1, a4, pk_us, pk_un, va_up_self, va_up_ne, nI_add, pk_mul, nI_clamp, vp_inT, nI_ltI, nI_leI, nI_eqI, pk_sub, true_and, and_true]
                refine ⟨fun q7 => hK _ _ _ _ ?_, fun q7 => by omega⟩
                refine rz_blk' [(.aload_n 0, 1, 0, 0), (.getfield 166, 3, 10, 65), (.iload_n 3, 1, 0, 0), (.aload_n 0, 1, 0, 0), (.getfield 62, 3, 10, 19), (.iload_n 2, 1, 0, 0), (.iaload, 1, 0, 0), (.aload_n 0, 1, 0, 0), (.getfield 166, 3, 10, 65), (.iload 4, 2, 0, 0), (.iaload, 1, 0, 0), (.iadd, 1, 0, 0), (.iastore, 1, 0, 0)] (by decide +kernel) (Nat.le_refl _) (Nat.le_refl _) (fun K R hK hR => ?_)
                simp only [↓rx_aload_n0, ↓rx_getfield, ↓rx_iadd, ↓rx_iaload, ↓rx_iastore, ↓rx_iload, ↓rx_iload_n2, ↓rx_iload_n3, ↓rx_nil, ↓ry_i2, ↓ry_iau, ↓ry_li0s, ↓ry_li0z, ↓ry_lr0s, ↓ry_lr0z, ↓ry_obu, ↓ry_r1, ↓ry_ri, ↓ry_rii, true_and, re_a19, re_a65, ↓re_F19, ↓re_F65, ↓re_i19, ↓re_i65, ↓re_ob, f65, f19, q1, a4, re_a65, ↓re_i65, rz_set, rz_nol, rz_clr, List.set_cons_zero, List.set_cons_succ, rz_tr, Nat.reduceAdd, Int.reduceAdd, Int.reduceToNat, Int.reduceSub, Int.reduceNeg, Int.cast_ofNat_Int]
                try simp (disch := omega) only [f65, f19, q1, a4, pk_us, pk_un, va_up_self, va_up_ne, nI_add, pk_mul, nI_clamp, vp_inT, nI_ltI, nI_leI, nI_eqI, pk_sub, true_and, and_true]
                refine hK _ _ _ _ ?_
                refine rz_blk' [(.iconst 1, 1, 0, 0), (.istore_n 1, 1, 0, 0)] (by decide +kernel) (Nat.le_refl _) (Nat.le_refl _) (fun K R hK hR => ?_)
                simp only [rw_c1, ↓rx_iconst, ↓rx_istore_n1, ↓rx_nil, ↓ry_i1, f65, f19, q1, a4, re_a65, ↓re_i65, rz_set, rz_nol, rz_clr, List.set_cons_zero, List.set_cons_succ, rz_tr, Nat.reduceAdd, Int.reduceAdd, Int.reduceToNat, Int.reduceSub, Int.reduceNeg, Int.cast_ofNat_Int]
                try simp (disch := omega) only [f65, f19, q1, a4, pk_us, pk_un, va_up_self, va_up_ne, nI_add, pk_mul, nI_clamp, vp_inT, nI_ltI, nI_leI, nI_eqI, pk_sub, true_and, and_true]
                refine hK _ _ _ _ ?_
                refine rz_blk' [(.iinc 2 1, 3, 0, 0)] (by decide +kernel) (Nat.le_refl _) (Nat.le_refl _) (fun K R hK hR => ?_)
                simp only [rw_c1, ↓rx_iinc, ↓rx_nil, ↓ry_li0s, ↓ry_li0z, f65, f19, q1, a4, re_a65, ↓re_i65, rz_set, rz_nol, rz_clr, List.set_cons_zero, List.set_cons_succ, rz_tr, Nat.reduceAdd, Int.reduceAdd, Int.reduceToNat, Int.reduceSub, Int.reduceNeg, Int.cast_ofNat_Int]
                try simp (disch := omega) only [f65, f19, q1, a4, pk_us, pk_un, va_up_self, va_up_ne, nI_add, pk_mul, nI_clamp, vp_inT, nI_ltI, nI_leI, nI_eqI, pk_sub, true_and, and_true]
                refine hK _ _ _ _ ?_
                refine rz_blk' [(.goto (-166), 3, 0, 0)] (by decide +kernel) (Nat.le_refl _) (Nat.le_refl _) (fun K R hK hR => ?_)
                simp only [↓rx_goto, ↓rx_nil, f65, f19, q1, a4, re_a65, ↓re_i65, rz_set, rz_nol, rz_clr, List.set_cons_zero, List.set_cons_succ, rz_tr, Nat.reduceAdd, Int.reduceAdd, Int.reduceToNat, Int.reduceSub, Int.reduceNeg, Int.cast_ofNat_Int]
                try simp (disch := omega) only [f65, f19, q1, a4, pk_us, pk_un, va_up_self, va_up_ne, nI_add, pk_mul, nI_clamp, vp_inT, nI_ltI, nI_leI, nI_eqI, pk_sub, true_and, and_true]
                refine hK _ _ _ _ ?_
                have hku := cm_k_up (C := C) (w := v ++ g) x1 hn1
                refine ihe (e + 1) _ (cm_up C fa0 (v ++ g)) true _ _ _ (by omega) ?_ ?_ ?_ ?_ ?_ (fun q => by cases q)
                · intro f hf
                  have n65 : f ≠ 65 := by intro q; subst q; revert hf; decide
                  have n66 : f ≠ 66 := by intro q; subst q; revert hf; decide
                  rw [va_up_ne _ _ n65, va_up_ne _ _ n66, hB1o f n66]; exact kf f hf
                · intro s hs
                  rw [va_up_self, va_up_ne _ _ (by decide), va_up_self]
                  by_cases c : s = fa0
                  · subst c
                    rw [pk_us, cm_us]
                    refine ⟨by simp only [os, List.length_append], ?_, by simp; omega, fun y hy => ?_⟩
                    · simp only [Option.getD_some]
                      refine sg_app ?_ (sg_cp sg_wsg (Nat.le_refl _))
                      refine sg.k (g := B1 66) ?_ (fun z h1 h2 => cp_out (by omega))
                      rw [hB166]; exact sg_cp a5 (Nat.le_refl _)
                    · rcases List.mem_append.mp hy with q | q
                      · exact x5 y q
                      · exact q4 y q
                  · rw [pk_un c, cm_un c]
                    obtain ⟨y1, y2, y3, y4⟩ := kc s hs
                    refine ⟨y1, y2.k (fun z h1 h2 => ?_), y3, y4⟩
                    rw [cp_out (by omega), hB166, cp_out (by omega)]
                · intro s o hs ho
                  rw [hku]
                  by_cases c : s = fa0
                  · subst c
                    rw [cm_us] at ho
                    cases ho
                    refine ⟨?_, by simp; omega⟩
                    have := xo_e (List.getElem_mem heT) (o := g) (by rw [hto]; exact hko.1)
                    rw [hfa, hvv] at this
                    exact this
                  · rw [cm_un c] at ho
                    have := ko s o hs ho
                    exact ⟨this.1, by omega⟩
                · intro s hs hc
                  by_cases c : s = fa0
                  · subst c; rw [cm_us]; simp
                  · rw [cm_un c]; exact ks s hs hc
                · intro _
                  rw [hku]
                  cases b with
                  | true => have := k1 rfl; omega
                  | false =>
                    have he : cm_k C = cm_k C0 := by
                      unfold cm_k
                      refine List.countP_congr (fun i hi => ?_)
                      rw [(k0 rfl).1 i (by simpa using hi)]
                    omega
              | succ j ihc =>
                intro i hij
                have hig : i < g.length := by omega
                have e1 : cp (B1 66) (32 * fa0 + v.length) (wsg g) 0 i (32 * to0 + i) = nI g[i] := by
                  rw [cp_out (by omega), hB166, cp_out (by omega)]; exact q2 i hig
                have ihc := ihc (i + 1) (by omega)
                rw [← cp_s, Nat.zero_add, wsg_at hig] at ihc
                refine rz_blk' [(.iload 5, 2, 0, 0), (.aload_n 0, 1, 0, 0), (.getfield 166, 3, 10, 65), (.iload 4, 2, 0, 0), (.iaload, 1, 0, 0), (.if_icmp .ge 41, 3, 0, 0)] (by decide +kernel) (Nat.le_refl _) (Nat.le_refl _) (fun K R hK hR => ?_)
                simp only [↓rx_aload_n0, ↓rx_getfield, ↓rx_iaload, ↓rx_if_icmp_ge, ↓rx_iload, ↓rx_nil, ↓ry_i2, ↓ry_iau, ↓ry_li0s, ↓ry_li0z, ↓ry_lr0s, ↓ry_lr0z, ↓ry_obu, ↓ry_r1, ↓ry_ri, true_and, re_a65, ↓re_F65, ↓re_i65, ↓re_ob, f65, f19, q1, a4, e1, re_a66, ↓re_i66, rz_set, rz_nol, rz_clr, List.set_cons_zero, List.set_cons_succ, rz_tr, Nat.reduceAdd, Int.reduceAdd, Int.reduceToNat, Int.reduceSub, Int.reduceNeg, Int.cast_ofNat_Int]
                try simp (disch := omega) only [f65, f19, q1, a4, e1, pk_us, pk_un, va_up_self, va_up_ne, nI_add, pk_mul, nI_clamp, vp_inT, nI_ltI, nI_leI, nI_eqI, pk_sub, true_and, and_true]
                refine ⟨fun q8 => by omega, fun q8 => hK _ _ _ _ ?_⟩
                refine rz_blk' [(.aload_n 0, 1, 0, 0), (.getfield 169, 3, 10, 66), (.bipush 32, 2, 0, 0), (.iload_n 3, 1, 0, 0), (.imul, 1, 0, 0), (.aload_n 0, 1, 0, 0), (.getfield 62, 3, 10, 19), (.iload_n 2, 1, 0, 0), (.iaload, 1, 0, 0), (.iadd, 1, 0, 0), (.iload 5, 2, 0, 0), (.iadd, 1, 0, 0), (.aload_n 0, 1, 0, 0), (.getfield 169, 3, 10, 66), (.bipush 32, 2, 0, 0), (.iload 4, 2, 0, 0), (.imul, 1, 0, 0), (.iload 5, 2, 0, 0), (.iadd, 1, 0, 0), (.iaload, 1, 0, 0), (.iastore, 1, 0, 0)] (by decide +kernel) (Nat.le_refl _) (Nat.le_refl _) (fun K R hK hR => ?_)
                simp only [rw_b32, ↓rx_aload_n0, ↓rx_bipush, ↓rx_getfield, ↓rx_iadd, ↓rx_iaload, ↓rx_iastore, ↓rx_iload, ↓rx_iload_n2, ↓rx_iload_n3, ↓rx_imul, ↓rx_nil, ↓ry_i2, ↓ry_iau, ↓ry_li0s, ↓ry_li0z, ↓ry_lr0s, ↓ry_lr0z, ↓ry_obu, ↓ry_r1, ↓ry_ri, ↓ry_rii, true_and, re_a19, re_a66, ↓re_F19, ↓re_F66, ↓re_i19, ↓re_i66, ↓re_ob, f65, f19, q1, a4, e1, re_a66, ↓re_i66, rz_set, rz_nol, rz_clr, List.set_cons_zero, List.set_cons_succ, rz_tr, Nat.reduceAdd, Int.reduceAdd, Int.reduceToNat, Int.reduceSub, Int.reduceNeg, Int.cast_ofNat_Int]
                try simp (disch := omega) only [f65, f19, q1, a4, e1, pk_us, pk_un, va_up_self, va_up_ne, nI_add, pk_mul, nI_clamp, vp_inT, nI_ltI, nI_leI, nI_eqI, pk_sub, true_and, and_true]
                refine hK _ _ _ _ ?_
                refine rz_blk' [(.iinc 5 1, 3, 0, 0)] (by decide +kernel) (Nat.le_refl _) (Nat.le_refl _) (fun K R hK hR => ?_)
                simp only [rw_c1, ↓rx_iinc, ↓rx_nil, ↓ry_li0s, ↓ry_li0z, f65, f19, q1, a4, e1, re_a66, ↓re_i66, rz_set, rz_nol, rz_clr, List.set_cons_zero, List.set_cons_succ, rz_tr, Nat.reduceAdd, Int.reduceAdd, Int.reduceToNat, Int.reduceSub, Int.reduceNeg, Int.cast_ofNat_Int]
                try simp (disch := omega) only [f65, f19, q1, a4, e1, pk_us, pk_un, va_up_self, va_up_ne, nI_add, pk_mul, nI_clamp, vp_inT, nI_ltI, nI_leI, nI_eqI, pk_sub, true_and, and_true]
                refine hK _ _ _ _ ?_
                refine rz_blk' [(.goto (-47), 3, 0, 0)] (by decide +kernel) (Nat.le_refl _) (Nat.le_refl _) (fun K R hK hR => ?_)
                simp only [↓rx_goto, ↓rx_nil, f65, f19, q1, a4, e1, re_a66, ↓re_i66, rz_set, rz_nol, rz_clr, List.set_cons_zero, List.set_cons_succ, rz_tr, Nat.reduceAdd, Int.reduceAdd, Int.reduceToNat, Int.reduceSub, Int.reduceNeg, Int.cast_ofNat_Int]
                try simp (disch := omega) only [f65, f19, q1, a4, e1, pk_us, pk_un, va_up_self, va_up_ne, nI_add, pk_mul, nI_clamp, vp_inT, nI_ltI, nI_leI, nI_eqI, pk_sub, true_and, and_true]
                refine hK _ _ _ _ ?_
                rw [re_vv]
                exact ihc
            refine rz_blk' [(.iconst 0, 1, 0, 0), (.istore 5, 2, 0, 0)] (by decide +kernel) (Nat.le_refl _) (Nat.le_refl _) (fun K R hK hR => ?_)
            simp only [rw_c0, ↓rx_iconst, ↓rx_istore, ↓rx_nil, ↓ry_i1, rz_set, rz_nol, rz_clr, List.set_cons_zero, List.set_cons_succ, rz_tr, Nat.reduceAdd, Int.reduceAdd, Int.reduceToNat, Int.reduceSub, Int.reduceNeg, Int.cast_ofNat_Int]
            try simp (disch := omega) only [pk_us, pk_un, va_up_self, va_up_ne, nI_add, pk_mul, nI_clamp, vp_inT, nI_ltI, nI_leI, nI_eqI, pk_sub, true_and, and_true]
            refine hK _ _ _ _ ?_
            refine c1 A1 a4 ?_
            rw [hB1]
            refine rz_blk' [(.iconst 0, 1, 0, 0), (.istore 5, 2, 0, 0)] (by decide +kernel) (Nat.le_refl _) (Nat.le_refl _) (fun K R hK hR => ?_)
            simp only [rw_c0, ↓rx_iconst, ↓rx_istore, ↓rx_nil, ↓ry_i1, rz_set, rz_nol, rz_clr, List.set_cons_zero, List.set_cons_succ, rz_tr, Nat.reduceAdd, Int.reduceAdd, Int.reduceToNat, Int.reduceSub, Int.reduceNeg, Int.cast_ofNat_Int]
            try simp (disch := omega) only [pk_us, pk_un, va_up_self, va_up_ne, nI_add, pk_mul, nI_clamp, vp_inT, nI_ltI, nI_leI, nI_eqI, pk_sub, true_and, and_true]
            refine hK _ _ _ _ ?_
            have hz := c2 g.length 0 (Nat.zero_add _)
            rw [cp_0, re_ve] at hz
            exact hz
          refine rz_blk' [(.iload_n 2, 1, 0, 0), (.aload_n 0, 1, 0, 0), (.getfield 50, 3, 10, 15), (.iconst 0, 1, 0, 0), (.iaload, 1, 0, 0), (.if_icmp .ge 162, 3, 0, 0)] (by decide +kernel) (Nat.le_refl _) (Nat.le_refl _) (fun K R hK hR => ?_)
          simp only [rw_c0, ↓rx_aload_n0, ↓rx_getfield, ↓rx_iaload, ↓rx_iconst, ↓rx_if_icmp_ge, ↓rx_iload_n2, ↓rx_nil, ↓ry_i2, ↓ry_iau, ↓ry_li0s, ↓ry_li0z, ↓ry_lr0s, ↓ry_lr0z, ↓ry_obu, ↓ry_r1, ↓ry_ri, true_and, re_a15, ↓re_F15, ↓re_i15, ↓re_ob, r2, a1, a3, p1, q1, rz_set, rz_nol, rz_clr, List.set_cons_zero, List.set_cons_succ, rz_tr, Nat.reduceAdd, Int.reduceAdd, Int.reduceToNat, Int.reduceSub, Int.reduceNeg, Int.cast_ofNat_Int]
          try simp (disch := omega) only [r2, a1, a3, p1, q1, s1, s1b, s2, Classical.not_not, pk_us, pk_un, va_up_self, va_up_ne, nI_add, pk_mul, nI_clamp, vp_inT, nI_ltI, nI_leI, nI_eqI, pk_sub, true_and, and_true]
          refine ⟨fun q9 => by omega, fun q9 => hK _ _ _ _ ?_⟩
          refine rz_blk' [(.aload_n 0, 1, 0, 0), (.getfield 53, 3, 10, 16), (.iload_n 2, 1, 0, 0), (.iaload, 1, 0, 0), (.istore_n 3, 1, 0, 0)] (by decide +kernel) (Nat.le_refl _) (Nat.le_refl _) (fun K R hK hR => ?_)
          simp only [↓rx_aload_n0, ↓rx_getfield, ↓rx_iaload, ↓rx_iload_n2, ↓rx_istore_n3, ↓rx_nil, ↓ry_i1, ↓ry_iau, ↓ry_li0s, ↓ry_li0z, ↓ry_lr0s, ↓ry_lr0z, ↓ry_obu, ↓ry_r1, ↓ry_ri, true_and, re_a16, ↓re_F16, ↓re_i16, ↓re_ob, r2, a1, a3, p1, q1, rz_set, rz_nol, rz_clr, List.set_cons_zero, List.set_cons_succ, rz_tr, Nat.reduceAdd, Int.reduceAdd, Int.reduceToNat, Int.reduceSub, Int.reduceNeg, Int.cast_ofNat_Int]
          try simp (disch := omega) only [r2, a1, a3, p1, q1, s1, s1b, s2, Classical.not_not, pk_us, pk_un, va_up_self, va_up_ne, nI_add, pk_mul, nI_clamp, vp_inT, nI_ltI, nI_leI, nI_eqI, pk_sub, true_and, and_true]
          refine hK _ _ _ _ ?_
          refine rz_blk' [(.aload_n 0, 1, 0, 0), (.getfield 59, 3, 10, 18), (.iload_n 2, 1, 0, 0), (.iaload, 1, 0, 0), (.istore 4, 2, 0, 0)] (by decide +kernel) (Nat.le_refl _) (Nat.le_refl _) (fun K R hK hR => ?_)
          simp only [↓rx_aload_n0, ↓rx_getfield, ↓rx_iaload, ↓rx_iload_n2, ↓rx_istore, ↓rx_nil, ↓ry_i1, ↓ry_iau, ↓ry_li0s, ↓ry_li0z, ↓ry_lr0s, ↓ry_lr0z, ↓ry_obu, ↓ry_r1, ↓ry_ri, true_and, re_a18, ↓re_F18, ↓re_i18, ↓re_ob, r2, a1, a3, p1, q1, rz_set, rz_nol, rz_clr, List.set_cons_zero, List.set_cons_succ, rz_tr, Nat.reduceAdd, Int.reduceAdd, Int.reduceToNat, Int.reduceSub, Int.reduceNeg, Int.cast_ofNat_Int]
          try simp (disch := omega) only [r2, a1, a3, p1, q1, s1, s1b, s2, Classical.not_not, pk_us, pk_un, va_up_self, va_up_ne, nI_add, pk_mul, nI_clamp, vp_inT, nI_ltI, nI_leI, nI_eqI, pk_sub, true_and, and_true]
          refine hK _ _ _ _ ?_
          refine rz_blk' [(.aload_n 0, 1, 0, 0), (.getfield 166, 3, 10, 65), (.iload_n 3, 1, 0, 0), (.iaload, 1, 0, 0), (.ifCond .ge 132, 3, 0, 0)] (by decide +kernel) (Nat.le_refl _) (Nat.le_refl _) (fun K R hK hR => ?_)
          simp only [↓rx_aload_n0, ↓rx_getfield, ↓rx_iaload, ↓rx_ifCond_ge, ↓rx_iload_n3, ↓rx_nil, ↓ry_i1, ↓ry_iau, ↓ry_li0s, ↓ry_li0z, ↓ry_lr0s, ↓ry_lr0z, ↓ry_obu, ↓ry_r1, ↓ry_ri, true_and, re_a65, ↓re_F65, ↓re_i65, ↓re_ob, r2, a1, a3, p1, q1, rz_set, rz_nol, rz_clr, List.set_cons_zero, List.set_cons_succ, rz_tr, Nat.reduceAdd, Int.reduceAdd, Int.reduceToNat, Int.reduceSub, Int.reduceNeg, Int.cast_ofNat_Int]
          try simp (disch := omega) only [r2, a1, a3, p1, q1, s1, s1b, s2, Classical.not_not, pk_us, pk_un, va_up_self, va_up_ne, nI_add, pk_mul, nI_clamp, vp_inT, nI_ltI, nI_leI, nI_eqI, pk_sub, true_and, and_true]
          refine ⟨fun q10 => hK _ _ _ _ ?_, fun q10 => hK _ _ _ _ ?_⟩
          · -- 103 taken
            refine rz_blk' [(.iinc 2 1, 3, 0, 0)] (by decide +kernel) (Nat.le_refl _) (Nat.le_refl _) (fun K R hK hR => ?_)
            simp only [rw_c1, ↓rx_iinc, ↓rx_nil, ↓ry_li0s, ↓ry_li0z, r2, a1, a3, p1, q1, rz_set, rz_nol, rz_clr, List.set_cons_zero, List.set_cons_succ, rz_tr, Nat.reduceAdd, Int.reduceAdd, Int.reduceToNat, Int.reduceSub, Int.reduceNeg, Int.cast_ofNat_Int]
            try simp (disch := omega) only [r2, a1, a3, p1, q1, s1, s1b, s2, Classical.not_not, pk_us, pk_un, va_up_self, va_up_ne, nI_add, pk_mul, nI_clamp, vp_inT, nI_ltI, nI_leI, nI_eqI, pk_sub, true_and, and_true]
            refine hK _ _ _ _ ?_
            refine rz_blk' [(.goto (-166), 3, 0, 0)] (by decide +kernel) (Nat.le_refl _) (Nat.le_refl _) (fun K R hK hR => ?_)
            simp only [↓rx_goto, ↓rx_nil, r2, a1, a3, p1, q1, rz_set, rz_nol, rz_clr, List.set_cons_zero, List.set_cons_succ, rz_tr, Nat.reduceAdd, Int.reduceAdd, Int.reduceToNat, Int.reduceSub, Int.reduceNeg, Int.cast_ofNat_Int]
            try simp (disch := omega) only [r2, a1, a3, p1, q1, s1, s1b, s2, Classical.not_not, pk_us, pk_un, va_up_self, va_up_ne, nI_add, pk_mul, nI_clamp, vp_inT, nI_ltI, nI_leI, nI_eqI, pk_sub, true_and, and_true]
            refine hK _ _ _ _ ?_
            first
              | exact hskip (Or.inl q10) _ _ _
              | exact hskip (Or.inr q10) _ _ _
          · -- 103 not taken
            refine rz_blk' [(.aload_n 0, 1, 0, 0), (.getfield 166, 3, 10, 65), (.iload 4, 2, 0, 0), (.iaload, 1, 0, 0), (.ifCond .lt 122, 3, 0, 0)] (by decide +kernel) (Nat.le_refl _) (Nat.le_refl _) (fun K R hK hR => ?_)
            simp only [↓rx_aload_n0, ↓rx_getfield, ↓rx_iaload, ↓rx_ifCond_lt, ↓rx_iload, ↓rx_nil, ↓ry_i1, ↓ry_iau, ↓ry_li0s, ↓ry_li0z, ↓ry_lr0s, ↓ry_lr0z, ↓ry_obu, ↓ry_r1, ↓ry_ri, true_and, re_a65, ↓re_F65, ↓re_i65, ↓re_ob, r2, a1, a3, p1, q1, rz_set, rz_nol, rz_clr, List.set_cons_zero, List.set_cons_succ, rz_tr, Nat.reduceAdd, Int.reduceAdd, Int.reduceToNat, Int.reduceSub, Int.reduceNeg, Int.cast_ofNat_Int]
            try simp (disch := omega) only [r2, a1, a3, p1, q1, s1, s1b, s2, Classical.not_not, pk_us, pk_un, va_up_self, va_up_ne, nI_add, pk_mul, nI_clamp, vp_inT, nI_ltI, nI_leI, nI_eqI, pk_sub, true_and, and_true]
            refine ⟨fun q11 => hK _ _ _ _ ?_, fun q11 => hK _ _ _ _ ?_⟩
            · -- 113 taken
              refine rz_blk' [(.iinc 2 1, 3, 0, 0)] (by decide +kernel) (Nat.le_refl _) (Nat.le_refl _) (fun K R hK hR => ?_)
              simp only [rw_c1, ↓rx_iinc, ↓rx_nil, ↓ry_li0s, ↓ry_li0z, r2, a1, a3, p1, q1, rz_set, rz_nol, rz_clr, List.set_cons_zero, List.set_cons_succ, rz_tr, Nat.reduceAdd, Int.reduceAdd, Int.reduceToNat, Int.reduceSub, Int.reduceNeg, Int.cast_ofNat_Int]
              try simp (disch := omega) only [r2, a1, a3, p1, q1, s1, s1b, s2, Classical.not_not, pk_us, pk_un, va_up_self, va_up_ne, nI_add, pk_mul, nI_clamp, vp_inT, nI_ltI, nI_leI, nI_eqI, pk_sub, true_and, and_true]
              refine hK _ _ _ _ ?_
              refine rz_blk' [(.goto (-166), 3, 0, 0)] (by decide +kernel) (Nat.le_refl _) (Nat.le_refl _) (fun K R hK hR => ?_)
              simp only [↓rx_goto, ↓rx_nil, r2, a1, a3, p1, q1, rz_set, rz_nol, rz_clr, List.set_cons_zero, List.set_cons_succ, rz_tr, Nat.reduceAdd, Int.reduceAdd, Int.reduceToNat, Int.reduceSub, Int.reduceNeg, Int.cast_ofNat_Int]
              try simp (disch := omega) only [r2, a1, a3, p1, q1, s1, s1b, s2, Classical.not_not, pk_us, pk_un, va_up_self, va_up_ne, nI_add, pk_mul, nI_clamp, vp_inT, nI_ltI, nI_leI, nI_eqI, pk_sub, true_and, and_true]
              refine hK _ _ _ _ ?_
              first
                | exact hskip (Or.inl q11) _ _ _
                | exact hskip (Or.inr q11) _ _ _
            · -- 113 not taken
              obtain ⟨g, hg⟩ := Option.ne_none_iff_exists'.mp q11
              exact hadd (by first | exact q10 | simpa using q10) g hg
      refine rz_blk' [(.iconst 0, 1, 0, 0), (.istore_n 1, 1, 0, 0)] (by decide +kernel) (Nat.le_refl _) (Nat.le_refl _) (fun K R hK hR => ?_)
      simp only [rw_c0, ↓rx_iconst, ↓rx_istore_n1, ↓rx_nil, ↓ry_i1, rz_set, rz_nol, rz_clr, List.set_cons_zero, List.set_cons_succ, rz_tr, Nat.reduceAdd, Int.reduceAdd, Int.reduceToNat, Int.reduceSub, Int.reduceNeg, Int.cast_ofNat_Int]
      try simp (disch := omega) only [pk_us, pk_un, va_up_self, va_up_ne, nI_add, pk_mul, nI_clamp, vp_inT, nI_ltI, nI_leI, nI_eqI, pk_sub, true_and, and_true]
      refine hK _ _ _ _ ?_
      refine rz_blk' [(.iconst 0, 1, 0, 0), (.istore_n 2, 1, 0, 0)] (by decide +kernel) (Nat.le_refl _) (Nat.le_refl _) (fun K R hK hR => ?_)
      simp only [rw_c0, ↓rx_iconst, ↓rx_istore_n2, ↓rx_nil, ↓ry_i1, rz_set, rz_nol, rz_clr, List.set_cons_zero, List.set_cons_succ, rz_tr, Nat.reduceAdd, Int.reduceAdd, Int.reduceToNat, Int.reduceSub, Int.reduceNeg, Int.cast_ofNat_Int]
      try simp (disch := omega) only [pk_us, pk_un, va_up_self, va_up_ne, nI_add, pk_mul, nI_clamp, vp_inT, nI_ltI, nI_leI, nI_eqI, pk_sub, true_and, and_true]
      refine hK _ _ _ _ ?_
      exact el T.2.1.length 0 A0 C0 false _ _ _ (by omega) kf0 kc0 ko0 (fun s hs q => q) (fun q => by cases q) (fun _ => ⟨fun _ _ => rfl, fun i _ hi => absurd hi (Nat.not_lt_zero _)⟩)
  have c0 : ∀ (B : Nat → Nat → Int32) (s : Nat) (z3 z4 z5 : Option Value), s < 6 → rz_T w d 0 0 m_Mod_someOutputs 0 0 56 [some (.ref a), some (.int (nI s)), some (.int (nI (32))), z3, z4, z5] [] (re_put G a I (va_up B 66 (cp (B 66) (32 * s) (B 22) (32 * s) (32)))) Q → rz_T w d 0 0 m_Mod_someOutputs 0 0 22 [some (.ref a), some (.int (nI s)), some (.int (nI 0)), z3, z4, z5] [] (re_put G a I B) Q := by
    intro B s z3 z4 z5 hs hx
    have lp : ∀ (cj cx : Nat), cx + cj = 32 → rz_T w d 0 0 m_Mod_someOutputs 0 0 22 [some (.ref a), some (.int (nI s)), some (.int (nI cx)), z3, z4, z5] [] (re_put G a I (va_up B 66 (cp (B 66) (32 * s) (B 22) (32 * s) cx))) Q := by
      intro cj
      induction cj with
      | zero =>
        intro cx hij
        have hi : cx = 32 := by omega
        subst hi
        refine rz_blk' [(.iload_n 2, 1, 0, 0), (.bipush 32, 2, 0, 0), (.if_icmp .ge 31, 3, 0, 0)] (by decide +kernel) (Nat.le_refl _) (Nat.le_refl _) (fun K R hK hR => ?_)
        simp only [rw_b32, ↓rx_bipush, ↓rx_if_icmp_ge, ↓rx_iload_n2, ↓rx_nil, ↓ry_i2, ↓ry_li0s, ↓ry_li0z, rz_set, rz_nol, rz_clr, List.set_cons_zero, List.set_cons_succ, rz_tr, Nat.reduceAdd, Int.reduceAdd, Int.reduceToNat, Int.reduceSub, Int.reduceNeg, Int.cast_ofNat_Int]
        try simp (disch := omega) only [pk_us, pk_un, va_up_self, va_up_ne, nI_add, pk_mul, nI_clamp, vp_inT, nI_ltI, nI_leI, nI_eqI, pk_sub, true_and, and_true]
        refine ⟨fun q12 => hK _ _ _ _ ?_, fun q12 => by omega⟩
        exact hx
      | succ cj ih =>
        intro cx hij
        refine rz_blk' [(.iload_n 2, 1, 0, 0), (.bipush 32, 2, 0, 0), (.if_icmp .ge 31, 3, 0, 0)] (by decide +kernel) (Nat.le_refl _) (Nat.le_refl _) (fun K R hK hR => ?_)
        simp only [rw_b32, ↓rx_bipush, ↓rx_if_icmp_ge, ↓rx_iload_n2, ↓rx_nil, ↓ry_i2, ↓ry_li0s, ↓ry_li0z, rz_set, rz_nol, rz_clr, List.set_cons_zero, List.set_cons_succ, rz_tr, Nat.reduceAdd, Int.reduceAdd, Int.reduceToNat, Int.reduceSub, Int.reduceNeg, Int.cast_ofNat_Int]
        try simp (disch := omega) only [pk_us, pk_un, va_up_self, va_up_ne, nI_add, pk_mul, nI_clamp, vp_inT, nI_ltI, nI_leI, nI_eqI, pk_sub, true_and, and_true]
        refine ⟨fun q13 => by omega, fun q13 => hK _ _ _ _ ?_⟩
        refine rz_blk' [(.aload_n 0, 1, 0, 0), (.getfield 169, 3, 10, 66), (.bipush 32, 2, 0, 0), (.iload_n 1, 1, 0, 0), (.imul, 1, 0, 0), (.iload_n 2, 1, 0, 0), (.iadd, 1, 0, 0), (.aload_n 0, 1, 0, 0), (.getfield 71, 3, 10, 22), (.bipush 32, 2, 0, 0), (.iload_n 1, 1, 0, 0), (.imul, 1, 0, 0), (.iload_n 2, 1, 0, 0), (.iadd, 1, 0, 0), (.iaload, 1, 0, 0), (.iastore, 1, 0, 0)] (by decide +kernel) (Nat.le_refl _) (Nat.le_refl _) (fun K R hK hR => ?_)
        simp only [rw_b32, ↓rx_aload_n0, ↓rx_bipush, ↓rx_getfield, ↓rx_iadd, ↓rx_iaload, ↓rx_iastore, ↓rx_iload_n1, ↓rx_iload_n2, ↓rx_imul, ↓rx_nil, ↓ry_i2, ↓ry_iau, ↓ry_li0s, ↓ry_li0z, ↓ry_lr0s, ↓ry_lr0z, ↓ry_obu, ↓ry_r1, ↓ry_ri, ↓ry_rii, true_and, re_a22, re_a66, ↓re_F22, ↓re_F66, ↓re_i22, ↓re_i66, ↓re_ob, rz_set, rz_nol, rz_clr, List.set_cons_zero, List.set_cons_succ, rz_tr, Nat.reduceAdd, Int.reduceAdd, Int.reduceToNat, Int.reduceSub, Int.reduceNeg, Int.cast_ofNat_Int]
        try simp (disch := omega) only [pk_us, pk_un, va_up_self, va_up_ne, nI_add, pk_mul, nI_clamp, vp_inT, nI_ltI, nI_leI, nI_eqI, pk_sub, true_and, and_true]
        refine hK _ _ _ _ ?_
        refine rz_blk' [(.iinc 2 1, 3, 0, 0)] (by decide +kernel) (Nat.le_refl _) (Nat.le_refl _) (fun K R hK hR => ?_)
        simp only [rw_c1, ↓rx_iinc, ↓rx_nil, ↓ry_li0s, ↓ry_li0z, rz_set, rz_nol, rz_clr, List.set_cons_zero, List.set_cons_succ, rz_tr, Nat.reduceAdd, Int.reduceAdd, Int.reduceToNat, Int.reduceSub, Int.reduceNeg, Int.cast_ofNat_Int]
        try simp (disch := omega) only [pk_us, pk_un, va_up_self, va_up_ne, nI_add, pk_mul, nI_clamp, vp_inT, nI_ltI, nI_leI, nI_eqI, pk_sub, true_and, and_true]
        refine hK _ _ _ _ ?_
        refine rz_blk' [(.goto (-31), 3, 0, 0)] (by decide +kernel) (Nat.le_refl _) (Nat.le_refl _) (fun K R hK hR => ?_)
        simp only [↓rx_goto, ↓rx_nil, rz_set, rz_nol, rz_clr, List.set_cons_zero, List.set_cons_succ, rz_tr, Nat.reduceAdd, Int.reduceAdd, Int.reduceToNat, Int.reduceSub, Int.reduceNeg, Int.cast_ofNat_Int]
        try simp (disch := omega) only [pk_us, pk_un, va_up_self, va_up_ne, nI_add, pk_mul, nI_clamp, vp_inT, nI_ltI, nI_leI, nI_eqI, pk_sub, true_and, and_true]
        refine hK _ _ _ _ ?_
        have ih := ih (cx + 1) (by omega)
        rw [← cp_s] at ih
        rw [re_vv]
        exact ih
    have := lp (32) 0 (Nat.zero_add _)
    rw [cp_0, re_ve] at this
    exact this
  have sl : ∀ (j i : Nat) (A1 : Nat → Nat → Int32) (z2 z3 z4 z5 : Option Value), i + j = 6 → fa [65, 66] A A1 → (∀ s, s < i → A1 65 s = os (T.2.2.1 s) ∧ sg (A1 66) (32 * s) ((T.2.2.1 s).getD [])) → rz_T w d 0 0 m_Mod_someOutputs 0 0 2 [some (.ref a), some (.int (nI i)), z2, z3, z4, z5] [] (re_put G a I A1) Q := by
    intro j
    induction j with
    | zero =>
      intro i A1 z2 z3 z4 z5 hij kf hk
      have hi : i = 6 := by omega
      subst hi
      refine rz_blk' [(.iload_n 1, 1, 0, 0), (.bipush 6, 2, 0, 0), (.if_icmp .ge 57, 3, 0, 0)] (by decide +kernel) (Nat.le_refl _) (Nat.le_refl _) (fun K R hK hR => ?_)
      simp only [rw_b6, ↓rx_bipush, ↓rx_if_icmp_ge, ↓rx_iload_n1, ↓rx_nil, ↓ry_i2, ↓ry_li0s, ↓ry_li0z, rz_set, rz_nol, rz_clr, List.set_cons_zero, List.set_cons_succ, rz_tr, Nat.reduceAdd, Int.reduceAdd, Int.reduceToNat, Int.reduceSub, Int.reduceNeg, Int.cast_ofNat_Int]
      try simp (disch := omega) only [pk_us, pk_un, va_up_self, va_up_ne, nI_add, pk_mul, nI_clamp, vp_inT, nI_ltI, nI_leI, nI_eqI, pk_sub, true_and, and_true]
      refine ⟨fun q14 => hK _ _ _ _ ?_, fun q14 => by omega⟩
      refine rz_blk' [(.iconst 1, 1, 0, 0), (.istore_n 1, 1, 0, 0)] (by decide +kernel) (Nat.le_refl _) (Nat.le_refl _) (fun K R hK hR => ?_)
      simp only [rw_c1, ↓rx_iconst, ↓rx_istore_n1, ↓rx_nil, ↓ry_i1, rz_set, rz_nol, rz_clr, List.set_cons_zero, List.set_cons_succ, rz_tr, Nat.reduceAdd, Int.reduceAdd, Int.reduceToNat, Int.reduceSub, Int.reduceNeg, Int.cast_ofNat_Int]
      try simp (disch := omega) only [pk_us, pk_un, va_up_self, va_up_ne, nI_add, pk_mul, nI_clamp, vp_inT, nI_ltI, nI_leI, nI_eqI, pk_sub, true_and, and_true]
      refine hK _ _ _ _ ?_
      refine rz_blk' [(.iload_n 1, 1, 0, 0), (.ifCond .eq 179, 3, 0, 0)] (by decide +kernel) (Nat.le_refl _) (Nat.le_refl _) (fun K R hK hR => ?_)
      simp only [↓rx_ifCond_eq, ↓rx_iload_n1, ↓rx_nil, ↓ry_i1, ↓ry_li0s, ↓ry_li0z, rz_set, rz_nol, rz_clr, List.set_cons_zero, List.set_cons_succ, rz_tr, Nat.reduceAdd, Int.reduceAdd, Int.reduceToNat, Int.reduceSub, Int.reduceNeg, Int.cast_ofNat_Int]
      try simp (disch := omega) only [pk_us, pk_un, va_up_self, va_up_ne, nI_add, pk_mul, nI_clamp, vp_inT, nI_ltI, nI_leI, nI_eqI, pk_sub, true_and, and_true]
      refine ⟨fun q15 => absurd q15 (by decide), fun q15 => hK _ _ _ _ ?_⟩
      refine wl 7 A1 T.2.2.1 _ _ _ _ (by omega) kf (fun s hs => ?_) (fun s o hs ho => ?_) (fun s f hs hf => by rw [hf]; simp)
      · have hf3 : ((T.2.2.1 s).getD []).length ≤ 3 := tw_f w1
        refine ⟨(hk s hs).1, (hk s hs).2, by omega, fun y hy => ?_⟩
        cases hc : T.2.2.1 s with
        | none => rw [hc] at hy; simp at hy
        | some xs => rw [hc] at hy; exact (w1.2.2.2.2.1 s xs hc).2 y hy
      · have h3 := (w1.2.2.2.2.1 s o ho).1
        have := cm_k1 (C := T.2.2.1) hs (by rw [ho]; simp)
        exact ⟨xo_f ho, by omega⟩
    | succ j ih =>
      intro i A1 z2 z3 z4 z5 hij kf hk
      have e21 := kf 21 rfl
      obtain ⟨a1, a2⟩ := t.2.2.2.1 i (by omega)
      rw [Nat.mul_zero, Nat.zero_add] at a1 a2
      have hf3 : ((T.2.2.1 i).getD []).length ≤ 3 := tw_f w1
      refine rz_blk' [(.iload_n 1, 1, 0, 0), (.bipush 6, 2, 0, 0), (.if_icmp .ge 57, 3, 0, 0)] (by decide +kernel) (Nat.le_refl _) (Nat.le_refl _) (fun K R hK hR => ?_)
      simp only [rw_b6, ↓rx_bipush, ↓rx_if_icmp_ge, ↓rx_iload_n1, ↓rx_nil, ↓ry_i2, ↓ry_li0s, ↓ry_li0z, e21, a1, rz_set, rz_nol, rz_clr, List.set_cons_zero, List.set_cons_succ, rz_tr, Nat.reduceAdd, Int.reduceAdd, Int.reduceToNat, Int.reduceSub, Int.reduceNeg, Int.cast_ofNat_Int]
      try simp (disch := omega) only [e21, a1, pk_us, pk_un, va_up_self, va_up_ne, nI_add, pk_mul, nI_clamp, vp_inT, nI_ltI, nI_leI, nI_eqI, pk_sub, true_and, and_true]
      refine ⟨fun q16 => by omega, fun q16 => hK _ _ _ _ ?_⟩
      refine rz_blk' [(.aload_n 0, 1, 0, 0), (.getfield 166, 3, 10, 65), (.iload_n 1, 1, 0, 0), (.aload_n 0, 1, 0, 0), (.getfield 68, 3, 10, 21), (.iload_n 1, 1, 0, 0), (.iaload, 1, 0, 0), (.iastore, 1, 0, 0)] (by decide +kernel) (Nat.le_refl _) (Nat.le_refl _) (fun K R hK hR => ?_)
      simp only [↓rx_aload_n0, ↓rx_getfield, ↓rx_iaload, ↓rx_iastore, ↓rx_iload_n1, ↓rx_nil, ↓ry_iau, ↓ry_li0s, ↓ry_li0z, ↓ry_lr0s, ↓ry_lr0z, ↓ry_obu, ↓ry_r1, ↓ry_ri, ↓ry_rii, true_and, re_a21, re_a65, ↓re_F21, ↓re_F65, ↓re_i21, ↓re_i65, ↓re_ob, e21, a1, rz_set, rz_nol, rz_clr, List.set_cons_zero, List.set_cons_succ, rz_tr, Nat.reduceAdd, Int.reduceAdd, Int.reduceToNat, Int.reduceSub, Int.reduceNeg, Int.cast_ofNat_Int]
      try simp (disch := omega) only [e21, a1, pk_us, pk_un, va_up_self, va_up_ne, nI_add, pk_mul, nI_clamp, vp_inT, nI_ltI, nI_leI, nI_eqI, pk_sub, true_and, and_true]
      refine hK _ _ _ _ ?_
      refine rz_blk' [(.iconst 0, 1, 0, 0), (.istore_n 2, 1, 0, 0)] (by decide +kernel) (Nat.le_refl _) (Nat.le_refl _) (fun K R hK hR => ?_)
      simp only [rw_c0, ↓rx_iconst, ↓rx_istore_n2, ↓rx_nil, ↓ry_i1, e21, a1, rz_set, rz_nol, rz_clr, List.set_cons_zero, List.set_cons_succ, rz_tr, Nat.reduceAdd, Int.reduceAdd, Int.reduceToNat, Int.reduceSub, Int.reduceNeg, Int.cast_ofNat_Int]
      try simp (disch := omega) only [e21, a1, pk_us, pk_un, va_up_self, va_up_ne, nI_add, pk_mul, nI_clamp, vp_inT, nI_ltI, nI_leI, nI_eqI, pk_sub, true_and, and_true]
      refine hK _ _ _ _ ?_
      refine c0 _ i _ _ _ (by omega) ?_
      generalize hB : va_up A1 65 _ = B
      generalize hD : va_up B 66 _ = D
      have hB65 : B 65 = upd (A1 65) i (os (T.2.2.1 i)) := by rw [← hB, va_up_self]
      have hBo : ∀ f, f ≠ 65 → B f = A1 f := fun f hf => by rw [← hB, va_up_ne _ _ hf]
      have hDo : ∀ f, f ≠ 66 → D f = B f := fun f hf => by rw [← hD, va_up_ne _ _ hf]
      have hD66 : D 66 = cp (A1 66) (32 * i) (A 22) (32 * i) 32 := by rw [← hD, va_up_self, hBo 66 (by decide), hBo 22 (by decide), kf 22 rfl]
      clear hB hD
      refine rz_blk' [(.iinc 1 1, 3, 0, 0)] (by decide +kernel) (Nat.le_refl _) (Nat.le_refl _) (fun K R hK hR => ?_)
      simp only [rw_c1, ↓rx_iinc, ↓rx_nil, ↓ry_li0s, ↓ry_li0z, rz_set, rz_nol, rz_clr, List.set_cons_zero, List.set_cons_succ, rz_tr, Nat.reduceAdd, Int.reduceAdd, Int.reduceToNat, Int.reduceSub, Int.reduceNeg, Int.cast_ofNat_Int]
      try simp (disch := omega) only [pk_us, pk_un, va_up_self, va_up_ne, nI_add, pk_mul, nI_clamp, vp_inT, nI_ltI, nI_leI, nI_eqI, pk_sub, true_and, and_true]
      refine hK _ _ _ _ ?_
      refine rz_blk' [(.goto (-57), 3, 0, 0)] (by decide +kernel) (Nat.le_refl _) (Nat.le_refl _) (fun K R hK hR => ?_)
      simp only [↓rx_goto, ↓rx_nil, rz_set, rz_nol, rz_clr, List.set_cons_zero, List.set_cons_succ, rz_tr, Nat.reduceAdd, Int.reduceAdd, Int.reduceToNat, Int.reduceSub, Int.reduceNeg, Int.cast_ofNat_Int]
      try simp (disch := omega) only [pk_us, pk_un, va_up_self, va_up_ne, nI_add, pk_mul, nI_clamp, vp_inT, nI_ltI, nI_leI, nI_eqI, pk_sub, true_and, and_true]
      refine hK _ _ _ _ ?_
      refine ih (i + 1) D _ _ _ _ (by omega) (fun f hf => ?_) (fun s hs => ?_)
      · have n65 : f ≠ 65 := by intro q; subst q; revert hf; decide
        have n66 : f ≠ 66 := by intro q; subst q; revert hf; decide
        rw [hDo f n66, hBo f n65]; exact kf f hf
      · rw [hDo 65 (by decide), hB65, hD66]
        by_cases c : s = i
        · subst c
          rw [pk_us]
          exact ⟨rfl, sg_cp a2 (by omega)⟩
        · rw [pk_un c]
          obtain ⟨y1, y2⟩ := hk s (by omega)
          have hfs : ((T.2.2.1 s).getD []).length ≤ 3 := tw_f w1
          exact ⟨y1, y2.k (fun z h1 h2 => cp_out (by omega))⟩
  refine rz_enter' [some (.ref a), none, none, none, none, none] (by decide +kernel) rfl rfl (Nat.le_of_ble_eq_true rfl) rfl ?_
  refine rz_blk' [(.iconst 0, 1, 0, 0), (.istore_n 1, 1, 0, 0)] (by decide +kernel) (Nat.le_refl _) (Nat.le_refl _) (fun K R hK hR => ?_)
  simp only [rw_c0, ↓rx_iconst, ↓rx_istore_n1, ↓rx_nil, ↓ry_i1, rz_set, rz_nol, rz_clr, List.set_cons_zero, List.set_cons_succ, rz_tr, Nat.reduceAdd, Int.reduceAdd, Int.reduceToNat, Int.reduceSub, Int.reduceNeg, Int.cast_ofNat_Int]
  try simp (disch := omega) only [pk_us, pk_un, va_up_self, va_up_ne, nI_add, pk_mul, nI_clamp, vp_inT, nI_ltI, nI_leI, nI_eqI, pk_sub, true_and, and_true]
  refine hK _ _ _ _ ?_
  exact sl 6 0 A _ _ _ _ rfl fa.rf (fun s hs => absurd hs (Nat.not_lt_zero _))
