/-! the reference: reach, usefulOf, useful -/
theorem re_bit {s q : Nat} (hs : s < 64) (hq : q < 6) : nI s >>> (nI q &&& 31) &&& nI 1 = rz_b (s.testBit q) := by
  have : ∀ s, s < 64 → ∀ q, q < 6 → nI s >>> (nI q &&& 31) &&& nI 1 = rz_b (s.testBit q) := by decide +kernel
  exact this s hs q hq
theorem rb_1 {b : Bool} : (rz_b b = nI 1) = (b = true) := by cases b <;> simp [rz_b] <;> decide
theorem rb_0 {b : Bool} : (rz_b b = 0) = (b = false) := by cases b <;> simp [rz_b]
theorem hp_orlt {s q : Nat} (hs : s < 64) (hq : q < 6) (h : s.testBit q = false) : s < s ||| 2 ^ q := by
  have : ∀ s, s < 64 → ∀ q, q < 6 → s.testBit q = false → s < s ||| 2 ^ q := by decide +kernel
  exact this s hs q hq h
theorem hp_hi {s q : Nat} (hs : s < 64) (hq : 6 ≤ q) : s.testBit q = false := Nat.testBit_lt_two_pow (Nat.lt_of_lt_of_le hs (Nat.pow_le_pow_right (n := 2) (by decide) hq))
theorem hp_orb' {s q p : Nat} (hs : s < 64) (hq : q < 6) : (s ||| 2 ^ q).testBit p = (decide (p = q) || s.testBit p) := by
  by_cases c : p < 6
  · exact hp_orb s hs q hq p c
  · rw [hp_hi (hp_or64 s hs q hq) (by omega), hp_hi hs (by omega), decide_eq_false (by omega)]; rfl
def rc_e (f : Bool) (e : Nat × Nat × Nat × List Nat) : Nat × Nat := if f then (e.1, e.2.2.1) else (e.2.2.1, e.1)
def rc_i (m : mv_T) (f : Bool) (q : Nat) : Prop := if f then q = 0 else (m.2.2.1 q).isSome = true
/-- closed under the edges (forwards or backwards), with where it begins -/
def rc_c (m : mv_T) (f : Bool) (P : Nat → Prop) : Prop := (∀ q, rc_i m f q → P q) ∧ ∀ e, e ∈ m.2.1 → P (rc_e f e).1 → P (rc_e f e).2
/-- the least such set -/
def rc_is (m : mv_T) (f : Bool) (s : Nat) : Prop := s < 64 ∧ rc_c m f (fun q => s.testBit q = true) ∧ ∀ P : Nat → Prop, rc_c m f P → ∀ q, s.testBit q = true → P q
theorem rc_uniq {m : mv_T} {f : Bool} {s t : Nat} (h : rc_is m f s) (h2 : rc_is m f t) : s = t := by
  apply Nat.eq_of_testBit_eq
  intro q
  cases c : s.testBit q with
  | true => exact (h.2.2 _ h2.2.1 q c).symm
  | false =>
    cases c2 : t.testBit q with
    | false => rfl
    | true => exact absurd (h2.2.2 _ h.2.1 q c2) (by rw [c]; decide)
set_option maxRecDepth 100000 in
set_option maxHeartbeats 400000 in
theorem c_Mod_reach_t {w : rz_w} {d : Nat} {G : rz_G} {a : Nat} {I : Nat → Int32} {A : Nat → Nat → Int32} {m : mv_T} {k : Nat} (hk : k < 6) (h : re_m A k m) : rz_C w d 0 0 y_Mod_reach m_Mod_reach [.ref a, .int (nI k), .int (rz_b true)] (re_put G a I A) (fun (r : Option Value) (G' : rz_G) => ∃ s, rc_is m true s ∧ r = some (.int (nI s)) ∧ G' = re_put G a I A) := by
  generalize hQ : (fun (r : Option Value) (G' : rz_G) => ∃ s, rc_is m true s ∧ r = some (.int (nI s)) ∧ G' = re_put G a I A) = Q
  obtain ⟨m1, m2, m3, m4, m5, m6, m7, m8, m9, m10, m11⟩ := h
  have hend : ∀ s z4 z5 z6 z7, rc_is m true s → rz_T w d 0 0 m_Mod_reach 0 0 177 [some (.ref a), some (.int (nI k)), some (.int (rz_b true)), some (.int (nI s)), z4, z5, z6, z7] [] (re_put G a I A) Q := by
    intro s z4 z5 z6 z7 hs
    refine rz_blk' [(.iload_n 3, 1, 0, 0), (.ireturn, 1, 0, 0)] (by decide +kernel) (Nat.le_refl _) (Nat.le_refl _) (fun K R hK hR => ?_)
    simp only [↓rx_iload_n3, ↓rx_ireturn, ↓rx_nil, ↓ry_li0s, ↓ry_li0z, rz_set, rz_nol, rz_clr, List.set_cons_zero, List.set_cons_succ, rz_tr, Nat.reduceAdd, Int.reduceAdd, Int.reduceToNat, Int.reduceSub, Int.reduceNeg, Int.cast_ofNat_Int]
    try simp (disch := omega) only [pk_us, pk_un, va_up_self, va_up_ne, nI_add, pk_mul, nI_clamp, vp_inT, nI_ltI, nI_leI, nI_eqI, pk_sub, true_and, and_true]
    exact hR _ _ (rz_nb_i (by decide)) (by rw [← hQ]; exact ⟨s, hs, rfl, rfl⟩)
  have wl : ∀ (n s : Nat) (z5 z6 z7 : Option Value), 64 - s ≤ n → s < 64 → (∀ q, rc_i m true q → s.testBit q = true) → (∀ P : Nat → Prop, rc_c m true P → ∀ q, s.testBit q = true → P q) → rz_T w d 0 0 m_Mod_reach 0 0 63 [some (.ref a), some (.int (nI k)), some (.int (rz_b true)), some (.int (nI s)), some (.int (rz_b true)), z5, z6, z7] [] (re_put G a I A) Q := by
    intro n
    induction n with
    | zero => intro s z5 z6 z7 h1 h2; omega
    | succ n ih =>
      intro s0 z5 z6 z7 hn h64 hin hso
      have il : ∀ (j i s : Nat) (b : Bool) (z6 z7 : Option Value), i + j = m.2.1.length → s < 64 → (∀ q, s0.testBit q = true → s.testBit q = true) → (∀ P : Nat → Prop, rc_c m true P → ∀ q, s.testBit q = true → P q) → (b = true → s0 < s) → (b = false → s = s0 ∧ ∀ e (he : e < m.2.1.length), e < i → s0.testBit (rc_e true m.2.1[e]).1 = true → s0.testBit (rc_e true m.2.1[e]).2 = true) → rz_T w d 0 0 m_Mod_reach 0 0 77 [some (.ref a), some (.int (nI k)), some (.int (rz_b true)), some (.int (nI s)), some (.int (rz_b b)), some (.int (nI (24 * k + i))), z6, z7] [] (re_put G a I A) Q := by
        intro j
        induction j with
        | zero =>
          intro i s b z6 z7 hij hs hsub hso2 hb1 hb0
          refine rz_blk' [(.iload 5, 2, 0, 0), (.bipush 24, 2, 0, 0), (.iload_n 1, 1, 0, 0), (.imul, 1, 0, 0), (.aload_n 0, 1, 0, 0), (.getfield 13, 3, 10, 2), (.iload_n 1, 1, 0, 0), (.iaload, 1, 0, 0), (.iadd, 1, 0, 0), (.if_icmp .ge 84, 3, 0, 0)] (by decide +kernel) (Nat.le_refl _) (Nat.le_refl _) (fun K R hK hR => ?_)
          simp only [rw_b24, ↓rx_aload_n0, ↓rx_bipush, ↓rx_getfield, ↓rx_iadd, ↓rx_iaload, ↓rx_if_icmp_ge, ↓rx_iload, ↓rx_iload_n1, ↓rx_imul, ↓rx_nil, ↓ry_i2, ↓ry_iau, ↓ry_li0s, ↓ry_li0z, ↓ry_lr0s, ↓ry_lr0z, ↓ry_obu, ↓ry_r1, ↓ry_ri, true_and, re_a2, ↓re_F2, ↓re_i2, ↓re_ob, m4, rz_set, rz_nol, rz_clr, List.set_cons_zero, List.set_cons_succ, rz_tr, Nat.reduceAdd, Int.reduceAdd, Int.reduceToNat, Int.reduceSub, Int.reduceNeg, Int.cast_ofNat_Int]
          try simp (disch := omega) only [m4, pk_us, pk_un, va_up_self, va_up_ne, nI_add, pk_mul, nI_clamp, vp_inT, nI_ltI, nI_leI, nI_eqI, pk_sub, true_and, and_true]
          refine ⟨fun q1 => hK _ _ _ _ ?_, fun q1 => by omega⟩
          refine rz_blk' [(.goto (-111), 3, 0, 0)] (by decide +kernel) (Nat.le_refl _) (Nat.le_refl _) (fun K R hK hR => ?_)
          simp only [↓rx_goto, ↓rx_nil, m4, rz_set, rz_nol, rz_clr, List.set_cons_zero, List.set_cons_succ, rz_tr, Nat.reduceAdd, Int.reduceAdd, Int.reduceToNat, Int.reduceSub, Int.reduceNeg, Int.cast_ofNat_Int]
          try simp (disch := omega) only [m4, pk_us, pk_un, va_up_self, va_up_ne, nI_add, pk_mul, nI_clamp, vp_inT, nI_ltI, nI_leI, nI_eqI, pk_sub, true_and, and_true]
          refine hK _ _ _ _ ?_
          cases b with
          | true => exact ih s _ _ _ (by have := hb1 rfl; omega) hs (fun q hq => hsub q (hin q hq)) hso2
          | false =>
            obtain ⟨rfl, hcl⟩ := hb0 rfl
            refine rz_blk' [(.iload 4, 2, 0, 0), (.ifCond .eq 112, 3, 0, 0)] (by decide +kernel) (Nat.le_refl _) (Nat.le_refl _) (fun K R hK hR => ?_)
            simp only [↓rx_ifCond_eq, ↓rx_iload, ↓rx_nil, ↓ry_i1, ↓ry_li0s, ↓ry_li0z, rz_set, rz_nol, rz_clr, List.set_cons_zero, List.set_cons_succ, rz_tr, Nat.reduceAdd, Int.reduceAdd, Int.reduceToNat, Int.reduceSub, Int.reduceNeg, Int.cast_ofNat_Int]
            try simp (disch := omega) only [pk_us, pk_un, va_up_self, va_up_ne, nI_add, pk_mul, nI_clamp, vp_inT, nI_ltI, nI_leI, nI_eqI, pk_sub, true_and, and_true]
            refine ⟨fun q2 => hK _ _ _ _ ?_, fun q2 => by first | exact absurd rfl q2 | exact absurd trivial q2⟩
            exact hend s _ _ _ _ ⟨hs, ⟨hin, fun e he => by
              obtain ⟨i, hi, rfl⟩ := List.mem_iff_getElem.mp he
              exact hcl i hi (by omega)⟩, hso2⟩
        | succ j ih2 =>
          intro i s b z6 z7 hij hs hsub hso2 hb1 hb0
          obtain ⟨g1, -, g3, -, -, b1, -, b3⟩ := m6 i (by omega)
          refine rz_blk' [(.iload 5, 2, 0, 0), (.bipush 24, 2, 0, 0), (.iload_n 1, 1, 0, 0), (.imul, 1, 0, 0), (.aload_n 0, 1, 0, 0), (.getfield 13, 3, 10, 2), (.iload_n 1, 1, 0, 0), (.iaload, 1, 0, 0), (.iadd, 1, 0, 0), (.if_icmp .ge 84, 3, 0, 0)] (by decide +kernel) (Nat.le_refl _) (Nat.le_refl _) (fun K R hK hR => ?_)
          simp only [rw_b24, ↓rx_aload_n0, ↓rx_bipush, ↓rx_getfield, ↓rx_iadd, ↓rx_iaload, ↓rx_if_icmp_ge, ↓rx_iload, ↓rx_iload_n1, ↓rx_imul, ↓rx_nil, ↓ry_i2, ↓ry_iau, ↓ry_li0s, ↓ry_li0z, ↓ry_lr0s, ↓ry_lr0z, ↓ry_obu, ↓ry_r1, ↓ry_ri, true_and, re_a2, ↓re_F2, ↓re_i2, ↓re_ob, m4, g1, g3, rz_set, rz_nol, rz_clr, List.set_cons_zero, List.set_cons_succ, rz_tr, Nat.reduceAdd, Int.reduceAdd, Int.reduceToNat, Int.reduceSub, Int.reduceNeg, Int.cast_ofNat_Int]
          try simp (disch := omega) only [m4, g1, g3, re_bit, rb_1, rb_0, hp_bit, hp_ors, pk_us, pk_un, va_up_self, va_up_ne, nI_add, pk_mul, nI_clamp, vp_inT, nI_ltI, nI_leI, nI_eqI, pk_sub, true_and, and_true]
          refine ⟨fun q3 => by omega, fun q3 => hK _ _ _ _ ?_⟩
          refine rz_blk' [(.iload_n 2, 1, 0, 0), (.ifCond .eq 13, 3, 0, 0)] (by decide +kernel) (Nat.le_refl _) (Nat.le_refl _) (fun K R hK hR => ?_)
          simp only [↓rx_ifCond_eq, ↓rx_iload_n2, ↓rx_nil, ↓ry_i1, ↓ry_li0s, ↓ry_li0z, m4, g1, g3, rz_set, rz_nol, rz_clr, List.set_cons_zero, List.set_cons_succ, rz_tr, Nat.reduceAdd, Int.reduceAdd, Int.reduceToNat, Int.reduceSub, Int.reduceNeg, Int.cast_ofNat_Int]
          try simp (disch := omega) only [m4, g1, g3, re_bit, rb_1, rb_0, hp_bit, hp_ors, pk_us, pk_un, va_up_self, va_up_ne, nI_add, pk_mul, nI_clamp, vp_inT, nI_ltI, nI_leI, nI_eqI, pk_sub, true_and, and_true]
          refine ⟨fun q4 => absurd q4 (by decide), fun q4 => hK _ _ _ _ ?_⟩
          refine rz_blk' [(.aload_n 0, 1, 0, 0), (.getfield 16, 3, 10, 3), (.iload 5, 2, 0, 0), (.iaload, 1, 0, 0), (.goto 10, 3, 0, 0)] (by decide +kernel) (Nat.le_refl _) (Nat.le_refl _) (fun K R hK hR => ?_)
          simp only [↓rx_aload_n0, ↓rx_getfield, ↓rx_goto, ↓rx_iaload, ↓rx_iload, ↓rx_nil, ↓ry_iau, ↓ry_li0s, ↓ry_li0z, ↓ry_lr0s, ↓ry_lr0z, ↓ry_obu, ↓ry_r1, ↓ry_ri, true_and, re_a3, ↓re_F3, ↓re_i3, ↓re_ob, m4, g1, g3, rz_set, rz_nol, rz_clr, List.set_cons_zero, List.set_cons_succ, rz_tr, Nat.reduceAdd, Int.reduceAdd, Int.reduceToNat, Int.reduceSub, Int.reduceNeg, Int.cast_ofNat_Int]
          try simp (disch := omega) only [m4, g1, g3, re_bit, rb_1, rb_0, hp_bit, hp_ors, pk_us, pk_un, va_up_self, va_up_ne, nI_add, pk_mul, nI_clamp, vp_inT, nI_ltI, nI_leI, nI_eqI, pk_sub, true_and, and_true]
          refine hK _ _ _ _ ?_
          refine rz_blk' [(.istore 6, 2, 0, 0)] (by decide +kernel) (Nat.le_refl _) (Nat.le_refl _) (fun K R hK hR => ?_)
          simp only [↓rx_istore, ↓rx_nil, ↓ry_i1, m4, g1, g3, rz_set, rz_nol, rz_clr, List.set_cons_zero, List.set_cons_succ, rz_tr, Nat.reduceAdd, Int.reduceAdd, Int.reduceToNat, Int.reduceSub, Int.reduceNeg, Int.cast_ofNat_Int]
          try simp (disch := omega) only [m4, g1, g3, re_bit, rb_1, rb_0, hp_bit, hp_ors, pk_us, pk_un, va_up_self, va_up_ne, nI_add, pk_mul, nI_clamp, vp_inT, nI_ltI, nI_leI, nI_eqI, pk_sub, true_and, and_true]
          refine hK _ _ _ _ ?_
          refine rz_blk' [(.iload_n 2, 1, 0, 0), (.ifCond .eq 13, 3, 0, 0)] (by decide +kernel) (Nat.le_refl _) (Nat.le_refl _) (fun K R hK hR => ?_)
          simp only [↓rx_ifCond_eq, ↓rx_iload_n2, ↓rx_nil, ↓ry_i1, ↓ry_li0s, ↓ry_li0z, m4, g1, g3, rz_set, rz_nol, rz_clr, List.set_cons_zero, List.set_cons_succ, rz_tr, Nat.reduceAdd, Int.reduceAdd, Int.reduceToNat, Int.reduceSub, Int.reduceNeg, Int.cast_ofNat_Int]
          try simp (disch := omega) only [m4, g1, g3, re_bit, rb_1, rb_0, hp_bit, hp_ors, pk_us, pk_un, va_up_self, va_up_ne, nI_add, pk_mul, nI_clamp, vp_inT, nI_ltI, nI_leI, nI_eqI, pk_sub, true_and, and_true]
          refine ⟨fun q5 => absurd q5 (by decide), fun q5 => hK _ _ _ _ ?_⟩
          refine rz_blk' [(.aload_n 0, 1, 0, 0), (.getfield 22, 3, 10, 5), (.iload 5, 2, 0, 0), (.iaload, 1, 0, 0), (.goto 10, 3, 0, 0)] (by decide +kernel) (Nat.le_refl _) (Nat.le_refl _) (fun K R hK hR => ?_)
          simp only [↓rx_aload_n0, ↓rx_getfield, ↓rx_goto, ↓rx_iaload, ↓rx_iload, ↓rx_nil, ↓ry_iau, ↓ry_li0s, ↓ry_li0z, ↓ry_lr0s, ↓ry_lr0z, ↓ry_obu, ↓ry_r1, ↓ry_ri, true_and, re_a5, ↓re_F5, ↓re_i5, ↓re_ob, m4, g1, g3, rz_set, rz_nol, rz_clr, List.set_cons_zero, List.set_cons_succ, rz_tr, Nat.reduceAdd, Int.reduceAdd, Int.reduceToNat, Int.reduceSub, Int.reduceNeg, Int.cast_ofNat_Int]
          try simp (disch := omega) only [m4, g1, g3, re_bit, rb_1, rb_0, hp_bit, hp_ors, pk_us, pk_un, va_up_self, va_up_ne, nI_add, pk_mul, nI_clamp, vp_inT, nI_ltI, nI_leI, nI_eqI, pk_sub, true_and, and_true]
          refine hK _ _ _ _ ?_
          refine rz_blk' [(.istore 7, 2, 0, 0)] (by decide +kernel) (Nat.le_refl _) (Nat.le_refl _) (fun K R hK hR => ?_)
          simp only [↓rx_istore, ↓rx_nil, ↓ry_i1, m4, g1, g3, rz_set, rz_nol, rz_clr, List.set_cons_zero, List.set_cons_succ, rz_tr, Nat.reduceAdd, Int.reduceAdd, Int.reduceToNat, Int.reduceSub, Int.reduceNeg, Int.cast_ofNat_Int]
          try simp (disch := omega) only [m4, g1, g3, re_bit, rb_1, rb_0, hp_bit, hp_ors, pk_us, pk_un, va_up_self, va_up_ne, nI_add, pk_mul, nI_clamp, vp_inT, nI_ltI, nI_leI, nI_eqI, pk_sub, true_and, and_true]
          refine hK _ _ _ _ ?_
          refine rz_blk' [(.iload_n 3, 1, 0, 0), (.iload 6, 2, 0, 0), (.ishr, 1, 0, 0), (.iconst 1, 1, 0, 0), (.iand, 1, 0, 0), (.iconst 1, 1, 0, 0), (.if_icmp .ne 22, 3, 0, 0)] (by decide +kernel) (Nat.le_refl _) (Nat.le_refl _) (fun K R hK hR => ?_)
          simp only [rw_c1, ↓rx_iand, ↓rx_iconst, ↓rx_if_icmp_ne, ↓rx_iload, ↓rx_iload_n3, ↓rx_ishr, ↓rx_nil, ↓ry_i2, ↓ry_li0s, ↓ry_li0z, m4, g1, g3, rz_set, rz_nol, rz_clr, List.set_cons_zero, List.set_cons_succ, rz_tr, Nat.reduceAdd, Int.reduceAdd, Int.reduceToNat, Int.reduceSub, Int.reduceNeg, Int.cast_ofNat_Int]
          try simp (disch := omega) only [m4, g1, g3, re_bit, rb_1, rb_0, hp_bit, hp_ors, pk_us, pk_un, va_up_self, va_up_ne, nI_add, pk_mul, nI_clamp, vp_inT, nI_ltI, nI_leI, nI_eqI, pk_sub, true_and, and_true]
          refine ⟨fun q6 => hK _ _ _ _ ?_, fun q6 => hK _ _ _ _ ?_⟩
          · -- 146 taken
            refine rz_blk' [(.iinc 5 1, 3, 0, 0)] (by decide +kernel) (Nat.le_refl _) (Nat.le_refl _) (fun K R hK hR => ?_)
            simp only [rw_c1, ↓rx_iinc, ↓rx_nil, ↓ry_li0s, ↓ry_li0z, m4, g1, g3, rz_set, rz_nol, rz_clr, List.set_cons_zero, List.set_cons_succ, rz_tr, Nat.reduceAdd, Int.reduceAdd, Int.reduceToNat, Int.reduceSub, Int.reduceNeg, Int.cast_ofNat_Int]
            try simp (disch := omega) only [m4, g1, g3, re_bit, rb_1, rb_0, hp_bit, hp_ors, pk_us, pk_un, va_up_self, va_up_ne, nI_add, pk_mul, nI_clamp, vp_inT, nI_ltI, nI_leI, nI_eqI, pk_sub, true_and, and_true]
            refine hK _ _ _ _ ?_
            refine rz_blk' [(.goto (-94), 3, 0, 0)] (by decide +kernel) (Nat.le_refl _) (Nat.le_refl _) (fun K R hK hR => ?_)
            simp only [↓rx_goto, ↓rx_nil, m4, g1, g3, rz_set, rz_nol, rz_clr, List.set_cons_zero, List.set_cons_succ, rz_tr, Nat.reduceAdd, Int.reduceAdd, Int.reduceToNat, Int.reduceSub, Int.reduceNeg, Int.cast_ofNat_Int]
            try simp (disch := omega) only [m4, g1, g3, re_bit, rb_1, rb_0, hp_bit, hp_ors, pk_us, pk_un, va_up_self, va_up_ne, nI_add, pk_mul, nI_clamp, vp_inT, nI_ltI, nI_leI, nI_eqI, pk_sub, true_and, and_true]
            refine hK _ _ _ _ ?_
            first
              | (refine ih2 (i + 1) _ true _ _ (by omega) (hp_or64 s hs _ (by omega)) (fun q hq => ?_) (fun P hP q hq => ?_) (fun _ => ?_) (fun q => by cases q)
                 · rw [hp_orb' hs (by omega), hsub q hq]; simp
                 · rw [hp_orb' hs (by omega)] at hq
                   by_cases c : q = m.2.1[i].2.2.1
                   · subst c
                     exact hP.2 m.2.1[i] (List.getElem_mem _) (hso2 P hP _ q5)
                   · exact hso2 P hP q (by simpa [c] using hq)
                 · exact Nat.lt_of_le_of_lt (by cases b with | true => exact Nat.le_of_lt (hb1 rfl) | false => exact Nat.le_of_eq (hb0 rfl).1.symm) (hp_orlt hs (by omega) (by simpa using q6)))
              | (refine ih2 (i + 1) s b _ _ (by omega) hs hsub hso2 hb1 (fun hb => ⟨(hb0 hb).1, fun e he hei => ?_⟩)
                 by_cases c : e = i
                 · subst c
                   intro hx
                   have hx2 : s.testBit (m.2.1[e].1) = true := hsub _ hx
                   show s0.testBit (m.2.1[e].2.2.1) = true
                   rw [← (hb0 hb).1]
                   first
                     | exact absurd hx2 q6
                     | simpa using q6
                 · exact (hb0 hb).2 e he (by omega))
          · -- 146 not taken
            refine rz_blk' [(.iload_n 3, 1, 0, 0), (.iload 7, 2, 0, 0), (.ishr, 1, 0, 0), (.iconst 1, 1, 0, 0), (.iand, 1, 0, 0), (.ifCond .ne 13, 3, 0, 0)] (by decide +kernel) (Nat.le_refl _) (Nat.le_refl _) (fun K R hK hR => ?_)
            simp only [rw_c1, ↓rx_iand, ↓rx_iconst, ↓rx_ifCond_ne, ↓rx_iload, ↓rx_iload_n3, ↓rx_ishr, ↓rx_nil, ↓ry_i1, ↓ry_i2, ↓ry_li0s, ↓ry_li0z, m4, g1, g3, rz_set, rz_nol, rz_clr, List.set_cons_zero, List.set_cons_succ, rz_tr, Nat.reduceAdd, Int.reduceAdd, Int.reduceToNat, Int.reduceSub, Int.reduceNeg, Int.cast_ofNat_Int]
            try simp (disch := omega) only [m4, g1, g3, re_bit, rb_1, rb_0, hp_bit, hp_ors, pk_us, pk_un, va_up_self, va_up_ne, nI_add, pk_mul, nI_clamp, vp_inT, nI_ltI, nI_leI, nI_eqI, pk_sub, true_and, and_true]
            refine ⟨fun q7 => hK _ _ _ _ ?_, fun q7 => hK _ _ _ _ ?_⟩
            · -- 155 taken
              refine rz_blk' [(.iinc 5 1, 3, 0, 0)] (by decide +kernel) (Nat.le_refl _) (Nat.le_refl _) (fun K R hK hR => ?_)
              simp only [rw_c1, ↓rx_iinc, ↓rx_nil, ↓ry_li0s, ↓ry_li0z, m4, g1, g3, rz_set, rz_nol, rz_clr, List.set_cons_zero, List.set_cons_succ, rz_tr, Nat.reduceAdd, Int.reduceAdd, Int.reduceToNat, Int.reduceSub, Int.reduceNeg, Int.cast_ofNat_Int]
              try simp (disch := omega) only [m4, g1, g3, re_bit, rb_1, rb_0, hp_bit, hp_ors, pk_us, pk_un, va_up_self, va_up_ne, nI_add, pk_mul, nI_clamp, vp_inT, nI_ltI, nI_leI, nI_eqI, pk_sub, true_and, and_true]
              refine hK _ _ _ _ ?_
              refine rz_blk' [(.goto (-94), 3, 0, 0)] (by decide +kernel) (Nat.le_refl _) (Nat.le_refl _) (fun K R hK hR => ?_)
              simp only [↓rx_goto, ↓rx_nil, m4, g1, g3, rz_set, rz_nol, rz_clr, List.set_cons_zero, List.set_cons_succ, rz_tr, Nat.reduceAdd, Int.reduceAdd, Int.reduceToNat, Int.reduceSub, Int.reduceNeg, Int.cast_ofNat_Int]
              try simp (disch := omega) only [m4, g1, g3, re_bit, rb_1, rb_0, hp_bit, hp_ors, pk_us, pk_un, va_up_self, va_up_ne, nI_add, pk_mul, nI_clamp, vp_inT, nI_ltI, nI_leI, nI_eqI, pk_sub, true_and, and_true]
              refine hK _ _ _ _ ?_
              first
                | (refine ih2 (i + 1) _ true _ _ (by omega) (hp_or64 s hs _ (by omega)) (fun q hq => ?_) (fun P hP q hq => ?_) (fun _ => ?_) (fun q => by cases q)
                   · rw [hp_orb' hs (by omega), hsub q hq]; simp
                   · rw [hp_orb' hs (by omega)] at hq
                     by_cases c : q = m.2.1[i].2.2.1
                     · subst c
                       exact hP.2 m.2.1[i] (List.getElem_mem _) (hso2 P hP _ q6)
                     · exact hso2 P hP q (by simpa [c] using hq)
                   · exact Nat.lt_of_le_of_lt (by cases b with | true => exact Nat.le_of_lt (hb1 rfl) | false => exact Nat.le_of_eq (hb0 rfl).1.symm) (hp_orlt hs (by omega) (by simpa using q7)))
                | (refine ih2 (i + 1) s b _ _ (by omega) hs hsub hso2 hb1 (fun hb => ⟨(hb0 hb).1, fun e he hei => ?_⟩)
                   by_cases c : e = i
                   · subst c
                     intro hx
                     have hx2 : s.testBit (m.2.1[e].1) = true := hsub _ hx
                     show s0.testBit (m.2.1[e].2.2.1) = true
                     rw [← (hb0 hb).1]
                     first
                       | exact absurd hx2 q7
                       | simpa using q7
                   · exact (hb0 hb).2 e he (by omega))
            · -- 155 not taken
              -- adds
              refine rz_blk' [(.iload_n 3, 1, 0, 0), (.iconst 1, 1, 0, 0), (.iload 7, 2, 0, 0), (.ishl, 1, 0, 0), (.ior, 1, 0, 0), (.istore_n 3, 1, 0, 0)] (by decide +kernel) (Nat.le_refl _) (Nat.le_refl _) (fun K R hK hR => ?_)
              simp only [rw_c1, ↓rx_iconst, ↓rx_iload, ↓rx_iload_n3, ↓rx_ior, ↓rx_ishl, ↓rx_istore_n3, ↓rx_nil, ↓ry_i1, ↓ry_i2, ↓ry_li0s, ↓ry_li0z, m4, g1, g3, rz_set, rz_nol, rz_clr, List.set_cons_zero, List.set_cons_succ, rz_tr, Nat.reduceAdd, Int.reduceAdd, Int.reduceToNat, Int.reduceSub, Int.reduceNeg, Int.cast_ofNat_Int]
              try simp (disch := omega) only [m4, g1, g3, re_bit, rb_1, rb_0, hp_bit, hp_ors, pk_us, pk_un, va_up_self, va_up_ne, nI_add, pk_mul, nI_clamp, vp_inT, nI_ltI, nI_leI, nI_eqI, pk_sub, true_and, and_true]
              refine hK _ _ _ _ ?_
              refine rz_blk' [(.iconst 1, 1, 0, 0), (.istore 4, 2, 0, 0)] (by decide +kernel) (Nat.le_refl _) (Nat.le_refl _) (fun K R hK hR => ?_)
              simp only [rw_c1, ↓rx_iconst, ↓rx_istore, ↓rx_nil, ↓ry_i1, m4, g1, g3, rz_set, rz_nol, rz_clr, List.set_cons_zero, List.set_cons_succ, rz_tr, Nat.reduceAdd, Int.reduceAdd, Int.reduceToNat, Int.reduceSub, Int.reduceNeg, Int.cast_ofNat_Int]
              try simp (disch := omega) only [m4, g1, g3, re_bit, rb_1, rb_0, hp_bit, hp_ors, pk_us, pk_un, va_up_self, va_up_ne, nI_add, pk_mul, nI_clamp, vp_inT, nI_ltI, nI_leI, nI_eqI, pk_sub, true_and, and_true]
              refine hK _ _ _ _ ?_
              refine rz_blk' [(.iinc 5 1, 3, 0, 0)] (by decide +kernel) (Nat.le_refl _) (Nat.le_refl _) (fun K R hK hR => ?_)
              simp only [rw_c1, ↓rx_iinc, ↓rx_nil, ↓ry_li0s, ↓ry_li0z, m4, g1, g3, rz_set, rz_nol, rz_clr, List.set_cons_zero, List.set_cons_succ, rz_tr, Nat.reduceAdd, Int.reduceAdd, Int.reduceToNat, Int.reduceSub, Int.reduceNeg, Int.cast_ofNat_Int]
              try simp (disch := omega) only [m4, g1, g3, re_bit, rb_1, rb_0, hp_bit, hp_ors, pk_us, pk_un, va_up_self, va_up_ne, nI_add, pk_mul, nI_clamp, vp_inT, nI_ltI, nI_leI, nI_eqI, pk_sub, true_and, and_true]
              refine hK _ _ _ _ ?_
              refine rz_blk' [(.goto (-94), 3, 0, 0)] (by decide +kernel) (Nat.le_refl _) (Nat.le_refl _) (fun K R hK hR => ?_)
              simp only [↓rx_goto, ↓rx_nil, m4, g1, g3, rz_set, rz_nol, rz_clr, List.set_cons_zero, List.set_cons_succ, rz_tr, Nat.reduceAdd, Int.reduceAdd, Int.reduceToNat, Int.reduceSub, Int.reduceNeg, Int.cast_ofNat_Int]
              try simp (disch := omega) only [m4, g1, g3, re_bit, rb_1, rb_0, hp_bit, hp_ors, pk_us, pk_un, va_up_self, va_up_ne, nI_add, pk_mul, nI_clamp, vp_inT, nI_ltI, nI_leI, nI_eqI, pk_sub, true_and, and_true]
              refine hK _ _ _ _ ?_
              first
                | (refine ih2 (i + 1) _ true _ _ (by omega) (hp_or64 s hs _ (by omega)) (fun q hq => ?_) (fun P hP q hq => ?_) (fun _ => ?_) (fun q => by cases q)
                   · rw [hp_orb' hs (by omega), hsub q hq]; simp
                   · rw [hp_orb' hs (by omega)] at hq
                     by_cases c : q = m.2.1[i].2.2.1
                     · subst c
                       exact hP.2 m.2.1[i] (List.getElem_mem _) (hso2 P hP _ q6)
                     · exact hso2 P hP q (by simpa [c] using hq)
                   · exact Nat.lt_of_le_of_lt (by cases b with | true => exact Nat.le_of_lt (hb1 rfl) | false => exact Nat.le_of_eq (hb0 rfl).1.symm) (hp_orlt hs (by omega) (by simpa using q7)))
                | (refine ih2 (i + 1) s b _ _ (by omega) hs hsub hso2 hb1 (fun hb => ⟨(hb0 hb).1, fun e he hei => ?_⟩)
                   by_cases c : e = i
                   · subst c
                     intro hx
                     have hx2 : s.testBit (m.2.1[e].1) = true := hsub _ hx
                     show s0.testBit (m.2.1[e].2.2.1) = true
                     rw [← (hb0 hb).1]
                     first
                       | exact absurd hx2 q7
                       | simpa using q7
                   · exact (hb0 hb).2 e he (by omega))
      have hib : ∀ e, e < m.2.1.length → True := fun _ _ => trivial
      refine rz_blk' [(.iload 4, 2, 0, 0), (.ifCond .eq 112, 3, 0, 0)] (by decide +kernel) (Nat.le_refl _) (Nat.le_refl _) (fun K R hK hR => ?_)
      simp only [↓rx_ifCond_eq, ↓rx_iload, ↓rx_nil, ↓ry_i1, ↓ry_li0s, ↓ry_li0z, rz_set, rz_nol, rz_clr, List.set_cons_zero, List.set_cons_succ, rz_tr, Nat.reduceAdd, Int.reduceAdd, Int.reduceToNat, Int.reduceSub, Int.reduceNeg, Int.cast_ofNat_Int]
      try simp (disch := omega) only [pk_us, pk_un, va_up_self, va_up_ne, nI_add, pk_mul, nI_clamp, vp_inT, nI_ltI, nI_leI, nI_eqI, pk_sub, true_and, and_true]
      refine ⟨fun q8 => absurd q8 (by decide), fun q8 => hK _ _ _ _ ?_⟩
      refine rz_blk' [(.iconst 0, 1, 0, 0), (.istore 4, 2, 0, 0)] (by decide +kernel) (Nat.le_refl _) (Nat.le_refl _) (fun K R hK hR => ?_)
      simp only [rw_c0, ↓rx_iconst, ↓rx_istore, ↓rx_nil, ↓ry_i1, rz_set, rz_nol, rz_clr, List.set_cons_zero, List.set_cons_succ, rz_tr, Nat.reduceAdd, Int.reduceAdd, Int.reduceToNat, Int.reduceSub, Int.reduceNeg, Int.cast_ofNat_Int]
      try simp (disch := omega) only [pk_us, pk_un, va_up_self, va_up_ne, nI_add, pk_mul, nI_clamp, vp_inT, nI_ltI, nI_leI, nI_eqI, pk_sub, true_and, and_true]
      refine hK _ _ _ _ ?_
      refine rz_blk' [(.bipush 24, 2, 0, 0), (.iload_n 1, 1, 0, 0), (.imul, 1, 0, 0), (.istore 5, 2, 0, 0)] (by decide +kernel) (Nat.le_refl _) (Nat.le_refl _) (fun K R hK hR => ?_)
      simp only [rw_b24, ↓rx_bipush, ↓rx_iload_n1, ↓rx_imul, ↓rx_istore, ↓rx_nil, ↓ry_i1, ↓ry_i2, ↓ry_li0s, ↓ry_li0z, rz_set, rz_nol, rz_clr, List.set_cons_zero, List.set_cons_succ, rz_tr, Nat.reduceAdd, Int.reduceAdd, Int.reduceToNat, Int.reduceSub, Int.reduceNeg, Int.cast_ofNat_Int]
      try simp (disch := omega) only [pk_us, pk_un, va_up_self, va_up_ne, nI_add, pk_mul, nI_clamp, vp_inT, nI_ltI, nI_leI, nI_eqI, pk_sub, true_and, and_true]
      refine hK _ _ _ _ ?_
      exact il m.2.1.length 0 s0 false _ _ (by omega) h64 (fun _ q => q) hso (fun q => by cases q) (fun _ => ⟨rfl, fun e _ he => absurd he (Nat.not_lt_zero _)⟩)
  have sl : ∀ (j i : Nat), i + j = m.1 → rz_T w d 0 0 m_Mod_reach 0 0 13 [some (.ref a), some (.int (nI k)), some (.int (rz_b true)), some (.int (nI 1)), some (.int (nI i)), none, none, none] [] (re_put G a I A) Q := by
    intro j
    induction j with
    | zero =>
      intro i hij
      refine rz_blk' [(.iload 4, 2, 0, 0), (.aload_n 0, 1, 0, 0), (.getfield 7, 3, 10, 1), (.iload_n 1, 1, 0, 0), (.iaload, 1, 0, 0), (.if_icmp .ge 39, 3, 0, 0)] (by decide +kernel) (Nat.le_refl _) (Nat.le_refl _) (fun K R hK hR => ?_)
      simp only [↓rx_aload_n0, ↓rx_getfield, ↓rx_iaload, ↓rx_if_icmp_ge, ↓rx_iload, ↓rx_iload_n1, ↓rx_nil, ↓ry_i2, ↓ry_iau, ↓ry_li0s, ↓ry_li0z, ↓ry_lr0s, ↓ry_lr0z, ↓ry_obu, ↓ry_r1, ↓ry_ri, true_and, re_a1, ↓re_F1, ↓re_i1, ↓re_ob, m1, rz_set, rz_nol, rz_clr, List.set_cons_zero, List.set_cons_succ, rz_tr, Nat.reduceAdd, Int.reduceAdd, Int.reduceToNat, Int.reduceSub, Int.reduceNeg, Int.cast_ofNat_Int]
      try simp (disch := omega) only [m1, pk_us, pk_un, va_up_self, va_up_ne, nI_add, pk_mul, nI_clamp, vp_inT, nI_ltI, nI_leI, nI_eqI, pk_sub, true_and, and_true]
      refine ⟨fun q9 => hK _ _ _ _ ?_, fun q9 => by omega⟩
      refine rz_blk' [(.iconst 1, 1, 0, 0), (.istore 4, 2, 0, 0)] (by decide +kernel) (Nat.le_refl _) (Nat.le_refl _) (fun K R hK hR => ?_)
      simp only [rw_c1, ↓rx_iconst, ↓rx_istore, ↓rx_nil, ↓ry_i1, m1, rz_set, rz_nol, rz_clr, List.set_cons_zero, List.set_cons_succ, rz_tr, Nat.reduceAdd, Int.reduceAdd, Int.reduceToNat, Int.reduceSub, Int.reduceNeg, Int.cast_ofNat_Int]
      try simp (disch := omega) only [m1, pk_us, pk_un, va_up_self, va_up_ne, nI_add, pk_mul, nI_clamp, vp_inT, nI_ltI, nI_leI, nI_eqI, pk_sub, true_and, and_true]
      refine hK _ _ _ _ ?_
      refine wl 64 1 _ _ _ (by omega) (by decide) (fun q hq => ?_) (fun P hP q hq => ?_)
      · have hq : q = 0 := hq
        subst hq; rfl
      · by_cases c : q = 0
        · subst c; exact hP.1 0 rfl
        · rw [show (1 : Nat) = 2 ^ 0 from rfl, Nat.testBit_two_pow] at hq
          exact absurd (by simpa using hq : 0 = q) (Ne.symm c)
    | succ j ih =>
      intro i hij
      refine rz_blk' [(.iload 4, 2, 0, 0), (.aload_n 0, 1, 0, 0), (.getfield 7, 3, 10, 1), (.iload_n 1, 1, 0, 0), (.iaload, 1, 0, 0), (.if_icmp .ge 39, 3, 0, 0)] (by decide +kernel) (Nat.le_refl _) (Nat.le_refl _) (fun K R hK hR => ?_)
      simp only [↓rx_aload_n0, ↓rx_getfield, ↓rx_iaload, ↓rx_if_icmp_ge, ↓rx_iload, ↓rx_iload_n1, ↓rx_nil, ↓ry_i2, ↓ry_iau, ↓ry_li0s, ↓ry_li0z, ↓ry_lr0s, ↓ry_lr0z, ↓ry_obu, ↓ry_r1, ↓ry_ri, true_and, re_a1, ↓re_F1, ↓re_i1, ↓re_ob, m1, rz_set, rz_nol, rz_clr, List.set_cons_zero, List.set_cons_succ, rz_tr, Nat.reduceAdd, Int.reduceAdd, Int.reduceToNat, Int.reduceSub, Int.reduceNeg, Int.cast_ofNat_Int]
      try simp (disch := omega) only [m1, pk_us, pk_un, va_up_self, va_up_ne, nI_add, pk_mul, nI_clamp, vp_inT, nI_ltI, nI_leI, nI_eqI, pk_sub, true_and, and_true]
      refine ⟨fun q10 => by omega, fun q10 => hK _ _ _ _ ?_⟩
      refine rz_blk' [(.iload_n 2, 1, 0, 0), (.ifCond .ne 27, 3, 0, 0)] (by decide +kernel) (Nat.le_refl _) (Nat.le_refl _) (fun K R hK hR => ?_)
      simp only [↓rx_ifCond_ne, ↓rx_iload_n2, ↓rx_nil, ↓ry_i1, ↓ry_li0s, ↓ry_li0z, m1, rz_set, rz_nol, rz_clr, List.set_cons_zero, List.set_cons_succ, rz_tr, Nat.reduceAdd, Int.reduceAdd, Int.reduceToNat, Int.reduceSub, Int.reduceNeg, Int.cast_ofNat_Int]
      try simp (disch := omega) only [m1, pk_us, pk_un, va_up_self, va_up_ne, nI_add, pk_mul, nI_clamp, vp_inT, nI_ltI, nI_leI, nI_eqI, pk_sub, true_and, and_true]
      refine ⟨fun q11 => hK _ _ _ _ ?_, fun q11 => absurd q11 (by decide)⟩
      refine rz_blk' [(.iload_n 3, 1, 0, 0), (.istore_n 3, 1, 0, 0)] (by decide +kernel) (Nat.le_refl _) (Nat.le_refl _) (fun K R hK hR => ?_)
      simp only [↓rx_iload_n3, ↓rx_istore_n3, ↓rx_nil, ↓ry_i1, ↓ry_li0s, ↓ry_li0z, m1, rz_set, rz_nol, rz_clr, List.set_cons_zero, List.set_cons_succ, rz_tr, Nat.reduceAdd, Int.reduceAdd, Int.reduceToNat, Int.reduceSub, Int.reduceNeg, Int.cast_ofNat_Int]
      try simp (disch := omega) only [m1, pk_us, pk_un, va_up_self, va_up_ne, nI_add, pk_mul, nI_clamp, vp_inT, nI_ltI, nI_leI, nI_eqI, pk_sub, true_and, and_true]
      refine hK _ _ _ _ ?_
      refine rz_blk' [(.iinc 4 1, 3, 0, 0)] (by decide +kernel) (Nat.le_refl _) (Nat.le_refl _) (fun K R hK hR => ?_)
      simp only [rw_c1, ↓rx_iinc, ↓rx_nil, ↓ry_li0s, ↓ry_li0z, m1, rz_set, rz_nol, rz_clr, List.set_cons_zero, List.set_cons_succ, rz_tr, Nat.reduceAdd, Int.reduceAdd, Int.reduceToNat, Int.reduceSub, Int.reduceNeg, Int.cast_ofNat_Int]
      try simp (disch := omega) only [m1, pk_us, pk_un, va_up_self, va_up_ne, nI_add, pk_mul, nI_clamp, vp_inT, nI_ltI, nI_leI, nI_eqI, pk_sub, true_and, and_true]
      refine hK _ _ _ _ ?_
      refine rz_blk' [(.goto (-44), 3, 0, 0)] (by decide +kernel) (Nat.le_refl _) (Nat.le_refl _) (fun K R hK hR => ?_)
      simp only [↓rx_goto, ↓rx_nil, m1, rz_set, rz_nol, rz_clr, List.set_cons_zero, List.set_cons_succ, rz_tr, Nat.reduceAdd, Int.reduceAdd, Int.reduceToNat, Int.reduceSub, Int.reduceNeg, Int.cast_ofNat_Int]
      try simp (disch := omega) only [m1, pk_us, pk_un, va_up_self, va_up_ne, nI_add, pk_mul, nI_clamp, vp_inT, nI_ltI, nI_leI, nI_eqI, pk_sub, true_and, and_true]
      refine hK _ _ _ _ ?_
      exact ih (i + 1) (by omega)
  refine rz_enter' [some (.ref a), some (.int (nI k)), some (.int (rz_b true)), none, none, none, none, none] (by decide +kernel) rfl rfl (Nat.le_of_ble_eq_true rfl) rfl ?_
  refine rz_blk' [(.iload_n 2, 1, 0, 0), (.ifCond .eq 7, 3, 0, 0)] (by decide +kernel) (Nat.le_refl _) (Nat.le_refl _) (fun K R hK hR => ?_)
  simp only [↓rx_ifCond_eq, ↓rx_iload_n2, ↓rx_nil, ↓ry_i1, ↓ry_li0s, ↓ry_li0z, rz_set, rz_nol, rz_clr, List.set_cons_zero, List.set_cons_succ, rz_tr, Nat.reduceAdd, Int.reduceAdd, Int.reduceToNat, Int.reduceSub, Int.reduceNeg, Int.cast_ofNat_Int]
  try simp (disch := omega) only [pk_us, pk_un, va_up_self, va_up_ne, nI_add, pk_mul, nI_clamp, vp_inT, nI_ltI, nI_leI, nI_eqI, pk_sub, true_and, and_true]
  refine ⟨fun q12 => absurd q12 (by decide), fun q12 => hK _ _ _ _ ?_⟩
  refine rz_blk' [(.iconst 1, 1, 0, 0), (.goto 4, 3, 0, 0)] (by decide +kernel) (Nat.le_refl _) (Nat.le_refl _) (fun K R hK hR => ?_)
  simp only [rw_c1, ↓rx_goto, ↓rx_iconst, ↓rx_nil, rz_set, rz_nol, rz_clr, List.set_cons_zero, List.set_cons_succ, rz_tr, Nat.reduceAdd, Int.reduceAdd, Int.reduceToNat, Int.reduceSub, Int.reduceNeg, Int.cast_ofNat_Int]
  try simp (disch := omega) only [pk_us, pk_un, va_up_self, va_up_ne, nI_add, pk_mul, nI_clamp, vp_inT, nI_ltI, nI_leI, nI_eqI, pk_sub, true_and, and_true]
  refine hK _ _ _ _ ?_
  refine rz_blk' [(.istore_n 3, 1, 0, 0)] (by decide +kernel) (Nat.le_refl _) (Nat.le_refl _) (fun K R hK hR => ?_)
  simp only [↓rx_istore_n3, ↓rx_nil, ↓ry_i1, rz_set, rz_nol, rz_clr, List.set_cons_zero, List.set_cons_succ, rz_tr, Nat.reduceAdd, Int.reduceAdd, Int.reduceToNat, Int.reduceSub, Int.reduceNeg, Int.cast_ofNat_Int]
  try simp (disch := omega) only [pk_us, pk_un, va_up_self, va_up_ne, nI_add, pk_mul, nI_clamp, vp_inT, nI_ltI, nI_leI, nI_eqI, pk_sub, true_and, and_true]
  refine hK _ _ _ _ ?_
  refine rz_blk' [(.iconst 0, 1, 0, 0), (.istore 4, 2, 0, 0)] (by decide +kernel) (Nat.le_refl _) (Nat.le_refl _) (fun K R hK hR => ?_)
  simp only [rw_c0, ↓rx_iconst, ↓rx_istore, ↓rx_nil, ↓ry_i1, rz_set, rz_nol, rz_clr, List.set_cons_zero, List.set_cons_succ, rz_tr, Nat.reduceAdd, Int.reduceAdd, Int.reduceToNat, Int.reduceSub, Int.reduceNeg, Int.cast_ofNat_Int]
  try simp (disch := omega) only [pk_us, pk_un, va_up_self, va_up_ne, nI_add, pk_mul, nI_clamp, vp_inT, nI_ltI, nI_leI, nI_eqI, pk_sub, true_and, and_true]
  refine hK _ _ _ _ ?_
  exact sl m.1 0 (by omega)
set_option maxRecDepth 100000 in
set_option maxHeartbeats 400000 in
theorem c_Mod_reach_f {w : rz_w} {d : Nat} {G : rz_G} {a : Nat} {I : Nat → Int32} {A : Nat → Nat → Int32} {m : mv_T} {k : Nat} (hk : k < 6) (h : re_m A k m) : rz_C w d 0 0 y_Mod_reach m_Mod_reach [.ref a, .int (nI k), .int (rz_b false)] (re_put G a I A) (fun (r : Option Value) (G' : rz_G) => ∃ s, rc_is m false s ∧ r = some (.int (nI s)) ∧ G' = re_put G a I A) := by
  generalize hQ : (fun (r : Option Value) (G' : rz_G) => ∃ s, rc_is m false s ∧ r = some (.int (nI s)) ∧ G' = re_put G a I A) = Q
  obtain ⟨m1, m2, m3, m4, m5, m6, m7, m8, m9, m10, m11⟩ := h
  have hend : ∀ s z4 z5 z6 z7, rc_is m false s → rz_T w d 0 0 m_Mod_reach 0 0 177 [some (.ref a), some (.int (nI k)), some (.int (rz_b false)), some (.int (nI s)), z4, z5, z6, z7] [] (re_put G a I A) Q := by
    intro s z4 z5 z6 z7 hs
    refine rz_blk' [(.iload_n 3, 1, 0, 0), (.ireturn, 1, 0, 0)] (by decide +kernel) (Nat.le_refl _) (Nat.le_refl _) (fun K R hK hR => ?_)
    simp only [↓rx_iload_n3, ↓rx_ireturn, ↓rx_nil, ↓ry_li0s, ↓ry_li0z, rz_set, rz_nol, rz_clr, List.set_cons_zero, List.set_cons_succ, rz_tr, Nat.reduceAdd, Int.reduceAdd, Int.reduceToNat, Int.reduceSub, Int.reduceNeg, Int.cast_ofNat_Int]
    try simp (disch := omega) only [pk_us, pk_un, va_up_self, va_up_ne, nI_add, pk_mul, nI_clamp, vp_inT, nI_ltI, nI_leI, nI_eqI, pk_sub, true_and, and_true]
    exact hR _ _ (rz_nb_i (by decide)) (by rw [← hQ]; exact ⟨s, hs, rfl, rfl⟩)
  have wl : ∀ (n s : Nat) (z5 z6 z7 : Option Value), 64 - s ≤ n → s < 64 → (∀ q, rc_i m false q → s.testBit q = true) → (∀ P : Nat → Prop, rc_c m false P → ∀ q, s.testBit q = true → P q) → rz_T w d 0 0 m_Mod_reach 0 0 63 [some (.ref a), some (.int (nI k)), some (.int (rz_b false)), some (.int (nI s)), some (.int (rz_b true)), z5, z6, z7] [] (re_put G a I A) Q := by
    intro n
    induction n with
    | zero => intro s z5 z6 z7 h1 h2; omega
    | succ n ih =>
      intro s0 z5 z6 z7 hn h64 hin hso
      have il : ∀ (j i s : Nat) (b : Bool) (z6 z7 : Option Value), i + j = m.2.1.length → s < 64 → (∀ q, s0.testBit q = true → s.testBit q = true) → (∀ P : Nat → Prop, rc_c m false P → ∀ q, s.testBit q = true → P q) → (b = true → s0 < s) → (b = false → s = s0 ∧ ∀ e (he : e < m.2.1.length), e < i → s0.testBit (rc_e false m.2.1[e]).1 = true → s0.testBit (rc_e false m.2.1[e]).2 = true) → rz_T w d 0 0 m_Mod_reach 0 0 77 [some (.ref a), some (.int (nI k)), some (.int (rz_b false)), some (.int (nI s)), some (.int (rz_b b)), some (.int (nI (24 * k + i))), z6, z7] [] (re_put G a I A) Q := by
        intro j
        induction j with
        | zero =>
          intro i s b z6 z7 hij hs hsub hso2 hb1 hb0
          refine rz_blk' [(.iload 5, 2, 0, 0), (.bipush 24, 2, 0, 0), (.iload_n 1, 1, 0, 0), (.imul, 1, 0, 0), (.aload_n 0, 1, 0, 0), (.getfield 13, 3, 10, 2), (.iload_n 1, 1, 0, 0), (.iaload, 1, 0, 0), (.iadd, 1, 0, 0), (.if_icmp .ge 84, 3, 0, 0)] (by decide +kernel) (Nat.le_refl _) (Nat.le_refl _) (fun K R hK hR => ?_)
          simp only [rw_b24, ↓rx_aload_n0, ↓rx_bipush, ↓rx_getfield, ↓rx_iadd, ↓rx_iaload, ↓rx_if_icmp_ge, ↓rx_iload, ↓rx_iload_n1, ↓rx_imul, ↓rx_nil, ↓ry_i2, ↓ry_iau, ↓ry_li0s, ↓ry_li0z, ↓ry_lr0s, ↓ry_lr0z, ↓ry_obu, ↓ry_r1, ↓ry_ri, true_and, re_a2, ↓re_F2, ↓re_i2, ↓re_ob, m4, rz_set, rz_nol, rz_clr, List.set_cons_zero, List.set_cons_succ, rz_tr, Nat.reduceAdd, Int.reduceAdd, Int.reduceToNat, Int.reduceSub, Int.reduceNeg, Int.cast_ofNat_Int]
          try simp (disch := omega) only [m4, pk_us, pk_un, va_up_self, va_up_ne, nI_add, pk_mul, nI_clamp, vp_inT, nI_ltI, nI_leI, nI_eqI, pk_sub, true_and, and_true]
          refine ⟨fun q1 => hK _ _ _ _ ?_, fun q1 => by omega⟩
          refine rz_blk' [(.goto (-111), 3, 0, 0)] (by decide +kernel) (Nat.le_refl _) (Nat.le_refl _) (fun K R hK hR => ?_)
          simp only [↓rx_goto, ↓rx_nil, m4, rz_set, rz_nol, rz_clr, List.set_cons_zero, List.set_cons_succ, rz_tr, Nat.reduceAdd, Int.reduceAdd, Int.reduceToNat, Int.reduceSub, Int.reduceNeg, Int.cast_ofNat_Int]
          try simp (disch := omega) only [m4, pk_us, pk_un, va_up_self, va_up_ne, nI_add, pk_mul, nI_clamp, vp_inT, nI_ltI, nI_leI, nI_eqI, pk_sub, true_and, and_true]
          refine hK _ _ _ _ ?_
          cases b with
          | true => exact ih s _ _ _ (by have := hb1 rfl; omega) hs (fun q hq => hsub q (hin q hq)) hso2
          | false =>
            obtain ⟨rfl, hcl⟩ := hb0 rfl
            refine rz_blk' [(.iload 4, 2, 0, 0), (.ifCond .eq 112, 3, 0, 0)] (by decide +kernel) (Nat.le_refl _) (Nat.le_refl _) (fun K R hK hR => ?_)
            simp only [↓rx_ifCond_eq, ↓rx_iload, ↓rx_nil, ↓ry_i1, ↓ry_li0s, ↓ry_li0z, rz_set, rz_nol, rz_clr, List.set_cons_zero, List.set_cons_succ, rz_tr, Nat.reduceAdd, Int.reduceAdd, Int.reduceToNat, Int.reduceSub, Int.reduceNeg, Int.cast_ofNat_Int]
            try simp (disch := omega) only [pk_us, pk_un, va_up_self, va_up_ne, nI_add, pk_mul, nI_clamp, vp_inT, nI_ltI, nI_leI, nI_eqI, pk_sub, true_and, and_true]
            refine ⟨fun q2 => hK _ _ _ _ ?_, fun q2 => by first | exact absurd rfl q2 | exact absurd trivial q2⟩
            exact hend s _ _ _ _ ⟨hs, ⟨hin, fun e he => by
              obtain ⟨i, hi, rfl⟩ := List.mem_iff_getElem.mp he
              exact hcl i hi (by omega)⟩, hso2⟩
        | succ j ih2 =>
          intro i s b z6 z7 hij hs hsub hso2 hb1 hb0
          obtain ⟨g1, -, g3, -, -, b1, -, b3⟩ := m6 i (by omega)
          refine rz_blk' [(.iload 5, 2, 0, 0), (.bipush 24, 2, 0, 0), (.iload_n 1, 1, 0, 0), (.imul, 1, 0, 0), (.aload_n 0, 1, 0, 0), (.getfield 13, 3, 10, 2), (.iload_n 1, 1, 0, 0), (.iaload, 1, 0, 0), (.iadd, 1, 0, 0), (.if_icmp .ge 84, 3, 0, 0)] (by decide +kernel) (Nat.le_refl _) (Nat.le_refl _) (fun K R hK hR => ?_)
          simp only [rw_b24, ↓rx_aload_n0, ↓rx_bipush, ↓rx_getfield, ↓rx_iadd, ↓rx_iaload, ↓rx_if_icmp_ge, ↓rx_iload, ↓rx_iload_n1, ↓rx_imul, ↓rx_nil, ↓ry_i2, ↓ry_iau, ↓ry_li0s, ↓ry_li0z, ↓ry_lr0s, ↓ry_lr0z, ↓ry_obu, ↓ry_r1, ↓ry_ri, true_and, re_a2, ↓re_F2, ↓re_i2, ↓re_ob, m4, g1, g3, rz_set, rz_nol, rz_clr, List.set_cons_zero, List.set_cons_succ, rz_tr, Nat.reduceAdd, Int.reduceAdd, Int.reduceToNat, Int.reduceSub, Int.reduceNeg, Int.cast_ofNat_Int]
          try simp (disch := omega) only [m4, g1, g3, re_bit, rb_1, rb_0, hp_bit, hp_ors, pk_us, pk_un, va_up_self, va_up_ne, nI_add, pk_mul, nI_clamp, vp_inT, nI_ltI, nI_leI, nI_eqI, pk_sub, true_and, and_true]
          refine ⟨fun q3 => by omega, fun q3 => hK _ _ _ _ ?_⟩
          refine rz_blk' [(.iload_n 2, 1, 0, 0), (.ifCond .eq 13, 3, 0, 0)] (by decide +kernel) (Nat.le_refl _) (Nat.le_refl _) (fun K R hK hR => ?_)
          simp only [↓rx_ifCond_eq, ↓rx_iload_n2, ↓rx_nil, ↓ry_i1, ↓ry_li0s, ↓ry_li0z, m4, g1, g3, rz_set, rz_nol, rz_clr, List.set_cons_zero, List.set_cons_succ, rz_tr, Nat.reduceAdd, Int.reduceAdd, Int.reduceToNat, Int.reduceSub, Int.reduceNeg, Int.cast_ofNat_Int]
          try simp (disch := omega) only [m4, g1, g3, re_bit, rb_1, rb_0, hp_bit, hp_ors, pk_us, pk_un, va_up_self, va_up_ne, nI_add, pk_mul, nI_clamp, vp_inT, nI_ltI, nI_leI, nI_eqI, pk_sub, true_and, and_true]
          refine ⟨fun q4 => hK _ _ _ _ ?_, fun q4 => by first | exact absurd rfl q4 | exact absurd trivial q4⟩
          refine rz_blk' [(.aload_n 0, 1, 0, 0), (.getfield 22, 3, 10, 5), (.iload 5, 2, 0, 0), (.iaload, 1, 0, 0), (.istore 6, 2, 0, 0)] (by decide +kernel) (Nat.le_refl _) (Nat.le_refl _) (fun K R hK hR => ?_)
          simp only [↓rx_aload_n0, ↓rx_getfield, ↓rx_iaload, ↓rx_iload, ↓rx_istore, ↓rx_nil, ↓ry_i1, ↓ry_iau, ↓ry_li0s, ↓ry_li0z, ↓ry_lr0s, ↓ry_lr0z, ↓ry_obu, ↓ry_r1, ↓ry_ri, true_and, re_a5, ↓re_F5, ↓re_i5, ↓re_ob, m4, g1, g3, rz_set, rz_nol, rz_clr, List.set_cons_zero, List.set_cons_succ, rz_tr, Nat.reduceAdd, Int.reduceAdd, Int.reduceToNat, Int.reduceSub, Int.reduceNeg, Int.cast_ofNat_Int]
          try simp (disch := omega) only [m4, g1, g3, re_bit, rb_1, rb_0, hp_bit, hp_ors, pk_us, pk_un, va_up_self, va_up_ne, nI_add, pk_mul, nI_clamp, vp_inT, nI_ltI, nI_leI, nI_eqI, pk_sub, true_and, and_true]
          refine hK _ _ _ _ ?_
          refine rz_blk' [(.iload_n 2, 1, 0, 0), (.ifCond .eq 13, 3, 0, 0)] (by decide +kernel) (Nat.le_refl _) (Nat.le_refl _) (fun K R hK hR => ?_)
          simp only [↓rx_ifCond_eq, ↓rx_iload_n2, ↓rx_nil, ↓ry_i1, ↓ry_li0s, ↓ry_li0z, m4, g1, g3, rz_set, rz_nol, rz_clr, List.set_cons_zero, List.set_cons_succ, rz_tr, Nat.reduceAdd, Int.reduceAdd, Int.reduceToNat, Int.reduceSub, Int.reduceNeg, Int.cast_ofNat_Int]
          try simp (disch := omega) only [m4, g1, g3, re_bit, rb_1, rb_0, hp_bit, hp_ors, pk_us, pk_un, va_up_self, va_up_ne, nI_add, pk_mul, nI_clamp, vp_inT, nI_ltI, nI_leI, nI_eqI, pk_sub, true_and, and_true]
          refine ⟨fun q5 => hK _ _ _ _ ?_, fun q5 => by first | exact absurd rfl q5 | exact absurd trivial q5⟩
          refine rz_blk' [(.aload_n 0, 1, 0, 0), (.getfield 16, 3, 10, 3), (.iload 5, 2, 0, 0), (.iaload, 1, 0, 0), (.istore 7, 2, 0, 0)] (by decide +kernel) (Nat.le_refl _) (Nat.le_refl _) (fun K R hK hR => ?_)
          simp only [↓rx_aload_n0, ↓rx_getfield, ↓rx_iaload, ↓rx_iload, ↓rx_istore, ↓rx_nil, ↓ry_i1, ↓ry_iau, ↓ry_li0s, ↓ry_li0z, ↓ry_lr0s, ↓ry_lr0z, ↓ry_obu, ↓ry_r1, ↓ry_ri, true_and, re_a3, ↓re_F3, ↓re_i3, ↓re_ob, m4, g1, g3, rz_set, rz_nol, rz_clr, List.set_cons_zero, List.set_cons_succ, rz_tr, Nat.reduceAdd, Int.reduceAdd, Int.reduceToNat, Int.reduceSub, Int.reduceNeg, Int.cast_ofNat_Int]
          try simp (disch := omega) only [m4, g1, g3, re_bit, rb_1, rb_0, hp_bit, hp_ors, pk_us, pk_un, va_up_self, va_up_ne, nI_add, pk_mul, nI_clamp, vp_inT, nI_ltI, nI_leI, nI_eqI, pk_sub, true_and, and_true]
          refine hK _ _ _ _ ?_
          refine rz_blk' [(.iload_n 3, 1, 0, 0), (.iload 6, 2, 0, 0), (.ishr, 1, 0, 0), (.iconst 1, 1, 0, 0), (.iand, 1, 0, 0), (.iconst 1, 1, 0, 0), (.if_icmp .ne 22, 3, 0, 0)] (by decide +kernel) (Nat.le_refl _) (Nat.le_refl _) (fun K R hK hR => ?_)
          simp only [rw_c1, ↓rx_iand, ↓rx_iconst, ↓rx_if_icmp_ne, ↓rx_iload, ↓rx_iload_n3, ↓rx_ishr, ↓rx_nil, ↓ry_i2, ↓ry_li0s, ↓ry_li0z, m4, g1, g3, rz_set, rz_nol, rz_clr, List.set_cons_zero, List.set_cons_succ, rz_tr, Nat.reduceAdd, Int.reduceAdd, Int.reduceToNat, Int.reduceSub, Int.reduceNeg, Int.cast_ofNat_Int]
          try simp (disch := omega) only [m4, g1, g3, re_bit, rb_1, rb_0, hp_bit, hp_ors, pk_us, pk_un, va_up_self, va_up_ne, nI_add, pk_mul, nI_clamp, vp_inT, nI_ltI, nI_leI, nI_eqI, pk_sub, true_and, and_true]
          refine ⟨fun q6 => hK _ _ _ _ ?_, fun q6 => hK _ _ _ _ ?_⟩
          · -- 146 taken
            refine rz_blk' [(.iinc 5 1, 3, 0, 0)] (by decide +kernel) (Nat.le_refl _) (Nat.le_refl _) (fun K R hK hR => ?_)
            simp only [rw_c1, ↓rx_iinc, ↓rx_nil, ↓ry_li0s, ↓ry_li0z, m4, g1, g3, rz_set, rz_nol, rz_clr, List.set_cons_zero, List.set_cons_succ, rz_tr, Nat.reduceAdd, Int.reduceAdd, Int.reduceToNat, Int.reduceSub, Int.reduceNeg, Int.cast_ofNat_Int]
            try simp (disch := omega) only [m4, g1, g3, re_bit, rb_1, rb_0, hp_bit, hp_ors, pk_us, pk_un, va_up_self, va_up_ne, nI_add, pk_mul, nI_clamp, vp_inT, nI_ltI, nI_leI, nI_eqI, pk_sub, true_and, and_true]
            refine hK _ _ _ _ ?_
            refine rz_blk' [(.goto (-94), 3, 0, 0)] (by decide +kernel) (Nat.le_refl _) (Nat.le_refl _) (fun K R hK hR => ?_)
            simp only [↓rx_goto, ↓rx_nil, m4, g1, g3, rz_set, rz_nol, rz_clr, List.set_cons_zero, List.set_cons_succ, rz_tr, Nat.reduceAdd, Int.reduceAdd, Int.reduceToNat, Int.reduceSub, Int.reduceNeg, Int.cast_ofNat_Int]
            try simp (disch := omega) only [m4, g1, g3, re_bit, rb_1, rb_0, hp_bit, hp_ors, pk_us, pk_un, va_up_self, va_up_ne, nI_add, pk_mul, nI_clamp, vp_inT, nI_ltI, nI_leI, nI_eqI, pk_sub, true_and, and_true]
            refine hK _ _ _ _ ?_
            first
              | (refine ih2 (i + 1) _ true _ _ (by omega) (hp_or64 s hs _ (by omega)) (fun q hq => ?_) (fun P hP q hq => ?_) (fun _ => ?_) (fun q => by cases q)
                 · rw [hp_orb' hs (by omega), hsub q hq]; simp
                 · rw [hp_orb' hs (by omega)] at hq
                   by_cases c : q = m.2.1[i].1
                   · subst c
                     exact hP.2 m.2.1[i] (List.getElem_mem _) (hso2 P hP _ q5)
                   · exact hso2 P hP q (by simpa [c] using hq)
                 · exact Nat.lt_of_le_of_lt (by cases b with | true => exact Nat.le_of_lt (hb1 rfl) | false => exact Nat.le_of_eq (hb0 rfl).1.symm) (hp_orlt hs (by omega) (by simpa using q6)))
              | (refine ih2 (i + 1) s b _ _ (by omega) hs hsub hso2 hb1 (fun hb => ⟨(hb0 hb).1, fun e he hei => ?_⟩)
                 by_cases c : e = i
                 · subst c
                   intro hx
                   have hx2 : s.testBit (m.2.1[e].2.2.1) = true := hsub _ hx
                   show s0.testBit (m.2.1[e].1) = true
                   rw [← (hb0 hb).1]
                   first
                     | exact absurd hx2 q6
                     | simpa using q6
                 · exact (hb0 hb).2 e he (by omega))
          · -- 146 not taken
            refine rz_blk' [(.iload_n 3, 1, 0, 0), (.iload 7, 2, 0, 0), (.ishr, 1, 0, 0), (.iconst 1, 1, 0, 0), (.iand, 1, 0, 0), (.ifCond .ne 13, 3, 0, 0)] (by decide +kernel) (Nat.le_refl _) (Nat.le_refl _) (fun K R hK hR => ?_)
            simp only [rw_c1, ↓rx_iand, ↓rx_iconst, ↓rx_ifCond_ne, ↓rx_iload, ↓rx_iload_n3, ↓rx_ishr, ↓rx_nil, ↓ry_i1, ↓ry_i2, ↓ry_li0s, ↓ry_li0z, m4, g1, g3, rz_set, rz_nol, rz_clr, List.set_cons_zero, List.set_cons_succ, rz_tr, Nat.reduceAdd, Int.reduceAdd, Int.reduceToNat, Int.reduceSub, Int.reduceNeg, Int.cast_ofNat_Int]
            try simp (disch := omega) only [m4, g1, g3, re_bit, rb_1, rb_0, hp_bit, hp_ors, pk_us, pk_un, va_up_self, va_up_ne, nI_add, pk_mul, nI_clamp, vp_inT, nI_ltI, nI_leI, nI_eqI, pk_sub, true_and, and_true]
            refine ⟨fun q7 => hK _ _ _ _ ?_, fun q7 => hK _ _ _ _ ?_⟩
            · -- 155 taken
              refine rz_blk' [(.iinc 5 1, 3, 0, 0)] (by decide +kernel) (Nat.le_refl _) (Nat.le_refl _) (fun K R hK hR => ?_)
              simp only [rw_c1, ↓rx_iinc, ↓rx_nil, ↓ry_li0s, ↓ry_li0z, m4, g1, g3, rz_set, rz_nol, rz_clr, List.set_cons_zero, List.set_cons_succ, rz_tr, Nat.reduceAdd, Int.reduceAdd, Int.reduceToNat, Int.reduceSub, Int.reduceNeg, Int.cast_ofNat_Int]
              try simp (disch := omega) only [m4, g1, g3, re_bit, rb_1, rb_0, hp_bit, hp_ors, pk_us, pk_un, va_up_self, va_up_ne, nI_add, pk_mul, nI_clamp, vp_inT, nI_ltI, nI_leI, nI_eqI, pk_sub, true_and, and_true]
              refine hK _ _ _ _ ?_
              refine rz_blk' [(.goto (-94), 3, 0, 0)] (by decide +kernel) (Nat.le_refl _) (Nat.le_refl _) (fun K R hK hR => ?_)
              simp only [↓rx_goto, ↓rx_nil, m4, g1, g3, rz_set, rz_nol, rz_clr, List.set_cons_zero, List.set_cons_succ, rz_tr, Nat.reduceAdd, Int.reduceAdd, Int.reduceToNat, Int.reduceSub, Int.reduceNeg, Int.cast_ofNat_Int]
              try simp (disch := omega) only [m4, g1, g3, re_bit, rb_1, rb_0, hp_bit, hp_ors, pk_us, pk_un, va_up_self, va_up_ne, nI_add, pk_mul, nI_clamp, vp_inT, nI_ltI, nI_leI, nI_eqI, pk_sub, true_and, and_true]
              refine hK _ _ _ _ ?_
              first
                | (refine ih2 (i + 1) _ true _ _ (by omega) (hp_or64 s hs _ (by omega)) (fun q hq => ?_) (fun P hP q hq => ?_) (fun _ => ?_) (fun q => by cases q)
                   · rw [hp_orb' hs (by omega), hsub q hq]; simp
                   · rw [hp_orb' hs (by omega)] at hq
                     by_cases c : q = m.2.1[i].1
                     · subst c
                       exact hP.2 m.2.1[i] (List.getElem_mem _) (hso2 P hP _ q6)
                     · exact hso2 P hP q (by simpa [c] using hq)
                   · exact Nat.lt_of_le_of_lt (by cases b with | true => exact Nat.le_of_lt (hb1 rfl) | false => exact Nat.le_of_eq (hb0 rfl).1.symm) (hp_orlt hs (by omega) (by simpa using q7)))
                | (refine ih2 (i + 1) s b _ _ (by omega) hs hsub hso2 hb1 (fun hb => ⟨(hb0 hb).1, fun e he hei => ?_⟩)
                   by_cases c : e = i
                   · subst c
                     intro hx
                     have hx2 : s.testBit (m.2.1[e].2.2.1) = true := hsub _ hx
                     show s0.testBit (m.2.1[e].1) = true
                     rw [← (hb0 hb).1]
                     first
                       | exact absurd hx2 q7
                       | simpa using q7
                   · exact (hb0 hb).2 e he (by omega))
            · -- 155 not taken
              -- adds
              refine rz_blk' [(.iload_n 3, 1, 0, 0), (.iconst 1, 1, 0, 0), (.iload 7, 2, 0, 0), (.ishl, 1, 0, 0), (.ior, 1, 0, 0), (.istore_n 3, 1, 0, 0)] (by decide +kernel) (Nat.le_refl _) (Nat.le_refl _) (fun K R hK hR => ?_)
              simp only [rw_c1, ↓rx_iconst, ↓rx_iload, ↓rx_iload_n3, ↓rx_ior, ↓rx_ishl, ↓rx_istore_n3, ↓rx_nil, ↓ry_i1, ↓ry_i2, ↓ry_li0s, ↓ry_li0z, m4, g1, g3, rz_set, rz_nol, rz_clr, List.set_cons_zero, List.set_cons_succ, rz_tr, Nat.reduceAdd, Int.reduceAdd, Int.reduceToNat, Int.reduceSub, Int.reduceNeg, Int.cast_ofNat_Int]
              try simp (disch := omega) only [m4, g1, g3, re_bit, rb_1, rb_0, hp_bit, hp_ors, pk_us, pk_un, va_up_self, va_up_ne, nI_add, pk_mul, nI_clamp, vp_inT, nI_ltI, nI_leI, nI_eqI, pk_sub, true_and, and_true]
              refine hK _ _ _ _ ?_
              refine rz_blk' [(.iconst 1, 1, 0, 0), (.istore 4, 2, 0, 0)] (by decide +kernel) (Nat.le_refl _) (Nat.le_refl _) (fun K R hK hR => ?_)
              simp only [rw_c1, ↓rx_iconst, ↓rx_istore, ↓rx_nil, ↓ry_i1, m4, g1, g3, rz_set, rz_nol, rz_clr, List.set_cons_zero, List.set_cons_succ, rz_tr, Nat.reduceAdd, Int.reduceAdd, Int.reduceToNat, Int.reduceSub, Int.reduceNeg, Int.cast_ofNat_Int]
              try simp (disch := omega) only [m4, g1, g3, re_bit, rb_1, rb_0, hp_bit, hp_ors, pk_us, pk_un, va_up_self, va_up_ne, nI_add, pk_mul, nI_clamp, vp_inT, nI_ltI, nI_leI, nI_eqI, pk_sub, true_and, and_true]
              refine hK _ _ _ _ ?_
              refine rz_blk' [(.iinc 5 1, 3, 0, 0)] (by decide +kernel) (Nat.le_refl _) (Nat.le_refl _) (fun K R hK hR => ?_)
              simp only [rw_c1, ↓rx_iinc, ↓rx_nil, ↓ry_li0s, ↓ry_li0z, m4, g1, g3, rz_set, rz_nol, rz_clr, List.set_cons_zero, List.set_cons_succ, rz_tr, Nat.reduceAdd, Int.reduceAdd, Int.reduceToNat, Int.reduceSub, Int.reduceNeg, Int.cast_ofNat_Int]
              try simp (disch := omega) only [m4, g1, g3, re_bit, rb_1, rb_0, hp_bit, hp_ors, pk_us, pk_un, va_up_self, va_up_ne, nI_add, pk_mul, nI_clamp, vp_inT, nI_ltI, nI_leI, nI_eqI, pk_sub, true_and, and_true]
              refine hK _ _ _ _ ?_
              refine rz_blk' [(.goto (-94), 3, 0, 0)] (by decide +kernel) (Nat.le_refl _) (Nat.le_refl _) (fun K R hK hR => ?_)
              simp only [↓rx_goto, ↓rx_nil, m4, g1, g3, rz_set, rz_nol, rz_clr, List.set_cons_zero, List.set_cons_succ, rz_tr, Nat.reduceAdd, Int.reduceAdd, Int.reduceToNat, Int.reduceSub, Int.reduceNeg, Int.cast_ofNat_Int]
              try simp (disch := omega) only [m4, g1, g3, re_bit, rb_1, rb_0, hp_bit, hp_ors, pk_us, pk_un, va_up_self, va_up_ne, nI_add, pk_mul, nI_clamp, vp_inT, nI_ltI, nI_leI, nI_eqI, pk_sub, true_and, and_true]
              refine hK _ _ _ _ ?_
              first
                | (refine ih2 (i + 1) _ true _ _ (by omega) (hp_or64 s hs _ (by omega)) (fun q hq => ?_) (fun P hP q hq => ?_) (fun _ => ?_) (fun q => by cases q)
                   · rw [hp_orb' hs (by omega), hsub q hq]; simp
                   · rw [hp_orb' hs (by omega)] at hq
                     by_cases c : q = m.2.1[i].1
                     · subst c
                       exact hP.2 m.2.1[i] (List.getElem_mem _) (hso2 P hP _ q6)
                     · exact hso2 P hP q (by simpa [c] using hq)
                   · exact Nat.lt_of_le_of_lt (by cases b with | true => exact Nat.le_of_lt (hb1 rfl) | false => exact Nat.le_of_eq (hb0 rfl).1.symm) (hp_orlt hs (by omega) (by simpa using q7)))
                | (refine ih2 (i + 1) s b _ _ (by omega) hs hsub hso2 hb1 (fun hb => ⟨(hb0 hb).1, fun e he hei => ?_⟩)
                   by_cases c : e = i
                   · subst c
                     intro hx
                     have hx2 : s.testBit (m.2.1[e].2.2.1) = true := hsub _ hx
                     show s0.testBit (m.2.1[e].1) = true
                     rw [← (hb0 hb).1]
                     first
                       | exact absurd hx2 q7
                       | simpa using q7
                   · exact (hb0 hb).2 e he (by omega))
      have hib : ∀ e, e < m.2.1.length → True := fun _ _ => trivial
      refine rz_blk' [(.iload 4, 2, 0, 0), (.ifCond .eq 112, 3, 0, 0)] (by decide +kernel) (Nat.le_refl _) (Nat.le_refl _) (fun K R hK hR => ?_)
      simp only [↓rx_ifCond_eq, ↓rx_iload, ↓rx_nil, ↓ry_i1, ↓ry_li0s, ↓ry_li0z, rz_set, rz_nol, rz_clr, List.set_cons_zero, List.set_cons_succ, rz_tr, Nat.reduceAdd, Int.reduceAdd, Int.reduceToNat, Int.reduceSub, Int.reduceNeg, Int.cast_ofNat_Int]
      try simp (disch := omega) only [pk_us, pk_un, va_up_self, va_up_ne, nI_add, pk_mul, nI_clamp, vp_inT, nI_ltI, nI_leI, nI_eqI, pk_sub, true_and, and_true]
      refine ⟨fun q8 => absurd q8 (by decide), fun q8 => hK _ _ _ _ ?_⟩
      refine rz_blk' [(.iconst 0, 1, 0, 0), (.istore 4, 2, 0, 0)] (by decide +kernel) (Nat.le_refl _) (Nat.le_refl _) (fun K R hK hR => ?_)
      simp only [rw_c0, ↓rx_iconst, ↓rx_istore, ↓rx_nil, ↓ry_i1, rz_set, rz_nol, rz_clr, List.set_cons_zero, List.set_cons_succ, rz_tr, Nat.reduceAdd, Int.reduceAdd, Int.reduceToNat, Int.reduceSub, Int.reduceNeg, Int.cast_ofNat_Int]
      try simp (disch := omega) only [pk_us, pk_un, va_up_self, va_up_ne, nI_add, pk_mul, nI_clamp, vp_inT, nI_ltI, nI_leI, nI_eqI, pk_sub, true_and, and_true]
      refine hK _ _ _ _ ?_
      refine rz_blk' [(.bipush 24, 2, 0, 0), (.iload_n 1, 1, 0, 0), (.imul, 1, 0, 0), (.istore 5, 2, 0, 0)] (by decide +kernel) (Nat.le_refl _) (Nat.le_refl _) (fun K R hK hR => ?_)
      simp only [rw_b24, ↓rx_bipush, ↓rx_iload_n1, ↓rx_imul, ↓rx_istore, ↓rx_nil, ↓ry_i1, ↓ry_i2, ↓ry_li0s, ↓ry_li0z, rz_set, rz_nol, rz_clr, List.set_cons_zero, List.set_cons_succ, rz_tr, Nat.reduceAdd, Int.reduceAdd, Int.reduceToNat, Int.reduceSub, Int.reduceNeg, Int.cast_ofNat_Int]
      try simp (disch := omega) only [pk_us, pk_un, va_up_self, va_up_ne, nI_add, pk_mul, nI_clamp, vp_inT, nI_ltI, nI_leI, nI_eqI, pk_sub, true_and, and_true]
      refine hK _ _ _ _ ?_
      exact il m.2.1.length 0 s0 false _ _ (by omega) h64 (fun _ q => q) hso (fun q => by cases q) (fun _ => ⟨rfl, fun e _ he => absurd he (Nat.not_lt_zero _)⟩)
  have sl : ∀ (j i s : Nat), i + j = m.1 → s < 64 → (∀ q, s.testBit q = true ↔ q < i ∧ (m.2.2.1 q).isSome = true) → rz_T w d 0 0 m_Mod_reach 0 0 13 [some (.ref a), some (.int (nI k)), some (.int (rz_b false)), some (.int (nI s)), some (.int (nI i)), none, none, none] [] (re_put G a I A) Q := by
    intro j
    induction j with
    | zero =>
      intro i s hij hs hb
      refine rz_blk' [(.iload 4, 2, 0, 0), (.aload_n 0, 1, 0, 0), (.getfield 7, 3, 10, 1), (.iload_n 1, 1, 0, 0), (.iaload, 1, 0, 0), (.if_icmp .ge 39, 3, 0, 0)] (by decide +kernel) (Nat.le_refl _) (Nat.le_refl _) (fun K R hK hR => ?_)
      simp only [↓rx_aload_n0, ↓rx_getfield, ↓rx_iaload, ↓rx_if_icmp_ge, ↓rx_iload, ↓rx_iload_n1, ↓rx_nil, ↓ry_i2, ↓ry_iau, ↓ry_li0s, ↓ry_li0z, ↓ry_lr0s, ↓ry_lr0z, ↓ry_obu, ↓ry_r1, ↓ry_ri, true_and, re_a1, ↓re_F1, ↓re_i1, ↓re_ob, m1, rz_set, rz_nol, rz_clr, List.set_cons_zero, List.set_cons_succ, rz_tr, Nat.reduceAdd, Int.reduceAdd, Int.reduceToNat, Int.reduceSub, Int.reduceNeg, Int.cast_ofNat_Int]
      try simp (disch := omega) only [m1, pk_us, pk_un, va_up_self, va_up_ne, nI_add, pk_mul, nI_clamp, vp_inT, nI_ltI, nI_leI, nI_eqI, pk_sub, true_and, and_true]
      refine ⟨fun q9 => hK _ _ _ _ ?_, fun q9 => by omega⟩
      refine rz_blk' [(.iconst 1, 1, 0, 0), (.istore 4, 2, 0, 0)] (by decide +kernel) (Nat.le_refl _) (Nat.le_refl _) (fun K R hK hR => ?_)
      simp only [rw_c1, ↓rx_iconst, ↓rx_istore, ↓rx_nil, ↓ry_i1, m1, rz_set, rz_nol, rz_clr, List.set_cons_zero, List.set_cons_succ, rz_tr, Nat.reduceAdd, Int.reduceAdd, Int.reduceToNat, Int.reduceSub, Int.reduceNeg, Int.cast_ofNat_Int]
      try simp (disch := omega) only [m1, pk_us, pk_un, va_up_self, va_up_ne, nI_add, pk_mul, nI_clamp, vp_inT, nI_ltI, nI_leI, nI_eqI, pk_sub, true_and, and_true]
      refine hK _ _ _ _ ?_
      refine wl 64 s _ _ _ (by omega) hs (fun q hq => ?_) (fun P hP q hq => hP.1 q ((hb q).mp hq).2)
      have hq : (m.2.2.1 q).isSome = true := hq
      refine (hb q).mpr ⟨?_, hq⟩
      by_cases c : m.1 ≤ q
      · rw [m8 q c] at hq; cases hq
      · omega
    | succ j ih =>
      intro i s hij hs hb
      obtain ⟨e1, -⟩ := m7 i (by omega)
      refine rz_blk' [(.iload 4, 2, 0, 0), (.aload_n 0, 1, 0, 0), (.getfield 7, 3, 10, 1), (.iload_n 1, 1, 0, 0), (.iaload, 1, 0, 0), (.if_icmp .ge 39, 3, 0, 0)] (by decide +kernel) (Nat.le_refl _) (Nat.le_refl _) (fun K R hK hR => ?_)
      simp only [↓rx_aload_n0, ↓rx_getfield, ↓rx_iaload, ↓rx_if_icmp_ge, ↓rx_iload, ↓rx_iload_n1, ↓rx_nil, ↓ry_i2, ↓ry_iau, ↓ry_li0s, ↓ry_li0z, ↓ry_lr0s, ↓ry_lr0z, ↓ry_obu, ↓ry_r1, ↓ry_ri, true_and, re_a1, ↓re_F1, ↓re_i1, ↓re_ob, m1, e1, rz_set, rz_nol, rz_clr, List.set_cons_zero, List.set_cons_succ, rz_tr, Nat.reduceAdd, Int.reduceAdd, Int.reduceToNat, Int.reduceSub, Int.reduceNeg, Int.cast_ofNat_Int]
      try simp (disch := omega) only [m1, e1, hp_bit, hp_ors, pk_us, pk_un, va_up_self, va_up_ne, nI_add, pk_mul, nI_clamp, vp_inT, nI_ltI, nI_leI, nI_eqI, pk_sub, true_and, and_true]
      refine ⟨fun q10 => by omega, fun q10 => hK _ _ _ _ ?_⟩
      refine rz_blk' [(.iload_n 2, 1, 0, 0), (.ifCond .ne 27, 3, 0, 0)] (by decide +kernel) (Nat.le_refl _) (Nat.le_refl _) (fun K R hK hR => ?_)
      simp only [↓rx_ifCond_ne, ↓rx_iload_n2, ↓rx_nil, ↓ry_i1, ↓ry_li0s, ↓ry_li0z, m1, e1, rz_set, rz_nol, rz_clr, List.set_cons_zero, List.set_cons_succ, rz_tr, Nat.reduceAdd, Int.reduceAdd, Int.reduceToNat, Int.reduceSub, Int.reduceNeg, Int.cast_ofNat_Int]
      try simp (disch := omega) only [m1, e1, hp_bit, hp_ors, pk_us, pk_un, va_up_self, va_up_ne, nI_add, pk_mul, nI_clamp, vp_inT, nI_ltI, nI_leI, nI_eqI, pk_sub, true_and, and_true]
      refine ⟨fun q11 => by first | exact absurd rfl q11 | exact absurd trivial q11, fun q11 => hK _ _ _ _ ?_⟩
      refine rz_blk' [(.aload_n 0, 1, 0, 0), (.getfield 31, 3, 10, 8), (.bipush 6, 2, 0, 0), (.iload_n 1, 1, 0, 0), (.imul, 1, 0, 0), (.iload 4, 2, 0, 0), (.iadd, 1, 0, 0), (.iaload, 1, 0, 0), (.ifCond .lt 12, 3, 0, 0)] (by decide +kernel) (Nat.le_refl _) (Nat.le_refl _) (fun K R hK hR => ?_)
      simp only [rw_b6, ↓rx_aload_n0, ↓rx_bipush, ↓rx_getfield, ↓rx_iadd, ↓rx_iaload, ↓rx_ifCond_lt, ↓rx_iload, ↓rx_iload_n1, ↓rx_imul, ↓rx_nil, ↓ry_i1, ↓ry_i2, ↓ry_iau, ↓ry_li0s, ↓ry_li0z, ↓ry_lr0s, ↓ry_lr0z, ↓ry_obu, ↓ry_r1, ↓ry_ri, true_and, re_a8, ↓re_F8, ↓re_i8, ↓re_ob, m1, e1, rz_set, rz_nol, rz_clr, List.set_cons_zero, List.set_cons_succ, rz_tr, Nat.reduceAdd, Int.reduceAdd, Int.reduceToNat, Int.reduceSub, Int.reduceNeg, Int.cast_ofNat_Int]
      try simp (disch := omega) only [m1, e1, hp_bit, hp_ors, pk_us, pk_un, va_up_self, va_up_ne, nI_add, pk_mul, nI_clamp, vp_inT, nI_ltI, nI_leI, nI_eqI, pk_sub, true_and, and_true]
      rw [show (os (m.2.2.1 i) < 0) = ((m.2.2.1 i).isSome = false) from by
        cases c : m.2.2.1 i with
        | none => simp [os]
        | some xs =>
          have := (m11.2.1 i xs c).1
          simp [os]; exact Int32.not_lt.mp (nI_pos (by omega))]
      refine ⟨fun q12 => hK _ _ _ _ ?_, fun q12 => hK _ _ _ _ ?_⟩
      · -- 40 taken
        refine rz_blk' [(.iload_n 3, 1, 0, 0), (.istore_n 3, 1, 0, 0)] (by decide +kernel) (Nat.le_refl _) (Nat.le_refl _) (fun K R hK hR => ?_)
        simp only [↓rx_iload_n3, ↓rx_istore_n3, ↓rx_nil, ↓ry_i1, ↓ry_li0s, ↓ry_li0z, m1, e1, rz_set, rz_nol, rz_clr, List.set_cons_zero, List.set_cons_succ, rz_tr, Nat.reduceAdd, Int.reduceAdd, Int.reduceToNat, Int.reduceSub, Int.reduceNeg, Int.cast_ofNat_Int]
        try simp (disch := omega) only [m1, e1, hp_bit, hp_ors, pk_us, pk_un, va_up_self, va_up_ne, nI_add, pk_mul, nI_clamp, vp_inT, nI_ltI, nI_leI, nI_eqI, pk_sub, true_and, and_true]
        refine hK _ _ _ _ ?_
        refine rz_blk' [(.iinc 4 1, 3, 0, 0)] (by decide +kernel) (Nat.le_refl _) (Nat.le_refl _) (fun K R hK hR => ?_)
        simp only [rw_c1, ↓rx_iinc, ↓rx_nil, ↓ry_li0s, ↓ry_li0z, m1, e1, rz_set, rz_nol, rz_clr, List.set_cons_zero, List.set_cons_succ, rz_tr, Nat.reduceAdd, Int.reduceAdd, Int.reduceToNat, Int.reduceSub, Int.reduceNeg, Int.cast_ofNat_Int]
        try simp (disch := omega) only [m1, e1, hp_bit, hp_ors, pk_us, pk_un, va_up_self, va_up_ne, nI_add, pk_mul, nI_clamp, vp_inT, nI_ltI, nI_leI, nI_eqI, pk_sub, true_and, and_true]
        refine hK _ _ _ _ ?_
        refine rz_blk' [(.goto (-44), 3, 0, 0)] (by decide +kernel) (Nat.le_refl _) (Nat.le_refl _) (fun K R hK hR => ?_)
        simp only [↓rx_goto, ↓rx_nil, m1, e1, rz_set, rz_nol, rz_clr, List.set_cons_zero, List.set_cons_succ, rz_tr, Nat.reduceAdd, Int.reduceAdd, Int.reduceToNat, Int.reduceSub, Int.reduceNeg, Int.cast_ofNat_Int]
        try simp (disch := omega) only [m1, e1, hp_bit, hp_ors, pk_us, pk_un, va_up_self, va_up_ne, nI_add, pk_mul, nI_clamp, vp_inT, nI_ltI, nI_leI, nI_eqI, pk_sub, true_and, and_true]
        refine hK _ _ _ _ ?_
        first
          | (refine ih (i + 1) s (by omega) hs (fun q => ?_)
             rw [hb q]
             by_cases c : q = i
             · subst c; rw [q12]; simp
             · constructor
               · rintro ⟨x1, x2⟩; exact ⟨by omega, x2⟩
               · rintro ⟨x1, x2⟩; exact ⟨by omega, x2⟩)
          | (refine ih (i + 1) (s ||| 2 ^ i) (by omega) (hp_or64 s hs i (by omega)) (fun q => ?_)
             rw [hp_orb' hs (by omega)]
             by_cases c : q = i
             · subst c
               have : (m.2.2.1 q).isSome = true := (Bool.eq_false_or_eq_true _).resolve_right q12
               simp [this]
             · rw [decide_eq_false c, Bool.false_or, hb q]
               constructor
               · rintro ⟨x1, x2⟩; exact ⟨by omega, x2⟩
               · rintro ⟨x1, x2⟩; exact ⟨by omega, x2⟩)
      · -- 40 not taken
        refine rz_blk' [(.iload_n 3, 1, 0, 0), (.iconst 1, 1, 0, 0), (.iload 4, 2, 0, 0), (.ishl, 1, 0, 0), (.ior, 1, 0, 0), (.goto 4, 3, 0, 0)] (by decide +kernel) (Nat.le_refl _) (Nat.le_refl _) (fun K R hK hR => ?_)
        simp only [rw_c1, ↓rx_goto, ↓rx_iconst, ↓rx_iload, ↓rx_iload_n3, ↓rx_ior, ↓rx_ishl, ↓rx_nil, ↓ry_i2, ↓ry_li0s, ↓ry_li0z, m1, e1, rz_set, rz_nol, rz_clr, List.set_cons_zero, List.set_cons_succ, rz_tr, Nat.reduceAdd, Int.reduceAdd, Int.reduceToNat, Int.reduceSub, Int.reduceNeg, Int.cast_ofNat_Int]
        try simp (disch := omega) only [m1, e1, hp_bit, hp_ors, pk_us, pk_un, va_up_self, va_up_ne, nI_add, pk_mul, nI_clamp, vp_inT, nI_ltI, nI_leI, nI_eqI, pk_sub, true_and, and_true]
        refine hK _ _ _ _ ?_
        refine rz_blk' [(.istore_n 3, 1, 0, 0)] (by decide +kernel) (Nat.le_refl _) (Nat.le_refl _) (fun K R hK hR => ?_)
        simp only [↓rx_istore_n3, ↓rx_nil, ↓ry_i1, m1, e1, rz_set, rz_nol, rz_clr, List.set_cons_zero, List.set_cons_succ, rz_tr, Nat.reduceAdd, Int.reduceAdd, Int.reduceToNat, Int.reduceSub, Int.reduceNeg, Int.cast_ofNat_Int]
        try simp (disch := omega) only [m1, e1, hp_bit, hp_ors, pk_us, pk_un, va_up_self, va_up_ne, nI_add, pk_mul, nI_clamp, vp_inT, nI_ltI, nI_leI, nI_eqI, pk_sub, true_and, and_true]
        refine hK _ _ _ _ ?_
        refine rz_blk' [(.iinc 4 1, 3, 0, 0)] (by decide +kernel) (Nat.le_refl _) (Nat.le_refl _) (fun K R hK hR => ?_)
        simp only [rw_c1, ↓rx_iinc, ↓rx_nil, ↓ry_li0s, ↓ry_li0z, m1, e1, rz_set, rz_nol, rz_clr, List.set_cons_zero, List.set_cons_succ, rz_tr, Nat.reduceAdd, Int.reduceAdd, Int.reduceToNat, Int.reduceSub, Int.reduceNeg, Int.cast_ofNat_Int]
        try simp (disch := omega) only [m1, e1, hp_bit, hp_ors, pk_us, pk_un, va_up_self, va_up_ne, nI_add, pk_mul, nI_clamp, vp_inT, nI_ltI, nI_leI, nI_eqI, pk_sub, true_and, and_true]
        refine hK _ _ _ _ ?_
        refine rz_blk' [(.goto (-44), 3, 0, 0)] (by decide +kernel) (Nat.le_refl _) (Nat.le_refl _) (fun K R hK hR => ?_)
        simp only [↓rx_goto, ↓rx_nil, m1, e1, rz_set, rz_nol, rz_clr, List.set_cons_zero, List.set_cons_succ, rz_tr, Nat.reduceAdd, Int.reduceAdd, Int.reduceToNat, Int.reduceSub, Int.reduceNeg, Int.cast_ofNat_Int]
        try simp (disch := omega) only [m1, e1, hp_bit, hp_ors, pk_us, pk_un, va_up_self, va_up_ne, nI_add, pk_mul, nI_clamp, vp_inT, nI_ltI, nI_leI, nI_eqI, pk_sub, true_and, and_true]
        refine hK _ _ _ _ ?_
        first
          | (refine ih (i + 1) s (by omega) hs (fun q => ?_)
             rw [hb q]
             by_cases c : q = i
             · subst c; rw [q12]; simp
             · constructor
               · rintro ⟨x1, x2⟩; exact ⟨by omega, x2⟩
               · rintro ⟨x1, x2⟩; exact ⟨by omega, x2⟩)
          | (refine ih (i + 1) (s ||| 2 ^ i) (by omega) (hp_or64 s hs i (by omega)) (fun q => ?_)
             rw [hp_orb' hs (by omega)]
             by_cases c : q = i
             · subst c
               have : (m.2.2.1 q).isSome = true := (Bool.eq_false_or_eq_true _).resolve_right q12
               simp [this]
             · rw [decide_eq_false c, Bool.false_or, hb q]
               constructor
               · rintro ⟨x1, x2⟩; exact ⟨by omega, x2⟩
               · rintro ⟨x1, x2⟩; exact ⟨by omega, x2⟩)
  refine rz_enter' [some (.ref a), some (.int (nI k)), some (.int (rz_b false)), none, none, none, none, none] (by decide +kernel) rfl rfl (Nat.le_of_ble_eq_true rfl) rfl ?_
  refine rz_blk' [(.iload_n 2, 1, 0, 0), (.ifCond .eq 7, 3, 0, 0)] (by decide +kernel) (Nat.le_refl _) (Nat.le_refl _) (fun K R hK hR => ?_)
  simp only [↓rx_ifCond_eq, ↓rx_iload_n2, ↓rx_nil, ↓ry_i1, ↓ry_li0s, ↓ry_li0z, rz_set, rz_nol, rz_clr, List.set_cons_zero, List.set_cons_succ, rz_tr, Nat.reduceAdd, Int.reduceAdd, Int.reduceToNat, Int.reduceSub, Int.reduceNeg, Int.cast_ofNat_Int]
  try simp (disch := omega) only [pk_us, pk_un, va_up_self, va_up_ne, nI_add, pk_mul, nI_clamp, vp_inT, nI_ltI, nI_leI, nI_eqI, pk_sub, true_and, and_true]
  refine ⟨fun q13 => hK _ _ _ _ ?_, fun q13 => by first | exact absurd rfl q13 | exact absurd trivial q13⟩
  refine rz_blk' [(.iconst 0, 1, 0, 0), (.istore_n 3, 1, 0, 0)] (by decide +kernel) (Nat.le_refl _) (Nat.le_refl _) (fun K R hK hR => ?_)
  simp only [rw_c0, ↓rx_iconst, ↓rx_istore_n3, ↓rx_nil, ↓ry_i1, rz_set, rz_nol, rz_clr, List.set_cons_zero, List.set_cons_succ, rz_tr, Nat.reduceAdd, Int.reduceAdd, Int.reduceToNat, Int.reduceSub, Int.reduceNeg, Int.cast_ofNat_Int]
  try simp (disch := omega) only [pk_us, pk_un, va_up_self, va_up_ne, nI_add, pk_mul, nI_clamp, vp_inT, nI_ltI, nI_leI, nI_eqI, pk_sub, true_and, and_true]
  refine hK _ _ _ _ ?_
  refine rz_blk' [(.iconst 0, 1, 0, 0), (.istore 4, 2, 0, 0)] (by decide +kernel) (Nat.le_refl _) (Nat.le_refl _) (fun K R hK hR => ?_)
  simp only [rw_c0, ↓rx_iconst, ↓rx_istore, ↓rx_nil, ↓ry_i1, rz_set, rz_nol, rz_clr, List.set_cons_zero, List.set_cons_succ, rz_tr, Nat.reduceAdd, Int.reduceAdd, Int.reduceToNat, Int.reduceSub, Int.reduceNeg, Int.cast_ofNat_Int]
  try simp (disch := omega) only [pk_us, pk_un, va_up_self, va_up_ne, nI_add, pk_mul, nI_clamp, vp_inT, nI_ltI, nI_leI, nI_eqI, pk_sub, true_and, and_true]
  refine hK _ _ _ _ ?_
  exact sl m.1 0 0 (by omega) (by decide) (fun q => by simp)
