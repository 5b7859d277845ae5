/-! the reference: isPair, addPair -/
theorem nI_div {a b : Nat} (ha : a < 2 ^ 31) (hb0 : 0 < b) (hb : b < 2 ^ 31) : nI a / nI b = nI (a / b) := by
  have hle : a / b ≤ a := Nat.div_le_self a b
  apply Int32.toInt_inj.mp
  rw [Int32.toInt_div, nI_toInt ha, nI_toInt hb, nI_toInt (by omega)]
  have key : ∀ c : Nat, c = a / b → Int.bmod (Int.tdiv (a : Int) (b : Int)) (2 ^ 32) = (c : Int) := by
    intro c hc
    have e : Int.tdiv (a : Int) (b : Int) = (c : Int) := by rw [hc]; rfl
    have hc2 : c ≤ a := by rw [hc]; exact hle
    rw [e]
    exact Int.bmod_eq_of_le (by omega) (by omega)
  exact key _ rfl
theorem nI_rem {a b : Nat} (ha : a < 2 ^ 31) (hb0 : 0 < b) (hb : b < 2 ^ 31) : nI a - nI a / nI b * nI b = nI (a % b) := by
  have h1 : a / b * b ≤ a := Nat.div_mul_le_self a b
  rw [nI_div ha hb0 hb, pk_mul, pk_sub (by omega)]
  congr 1
  have := Nat.div_add_mod a b
  rw [Nat.mul_comm] at this
  omega
abbrev pd_T := Nat × Nat × List Nat × List Nat
def ph1 (u : List Nat) (h : Int32) : Int32 := u.foldl (fun h x => nI 31 * h + nI x) h
def ph2 (v : List Nat) (h : Int32) : Int32 := v.foldl (fun h x => nI 37 * h + nI x + nI 1) h
def ph (x : pd_T) : Int32 := ph2 x.2.2.2 (ph1 x.2.2.1 (nI (7 * x.1 + x.2.1)))
def ps0 (h : Int32) : Int32 := h ^^^ (h.toUInt32 >>> ((nI 13).toUInt32 &&& Int32.toUInt32 31)).toInt32
def psl (x : pd_T) : Nat := (ps0 (ph x)).toBitVec.toNat % 2 ^ 12
theorem psl_lt (x : pd_T) : psl x < 4096 := Nat.mod_lt _ (by decide)
theorem psl_is (x : pd_T) : ps0 (ph x) &&& nI 4095 = nI (psl x) := pk_and _ 12 (by decide)
/-- the last of the first k that has this slot -/
def plt (P : List pd_T) (s : Nat) : Nat → Int32
  | 0 => -1
  | k + 1 => if (P[k]?).map psl = some s then nI k else plt P s k
theorem plt_app {P : List pd_T} {x : pd_T} {s : Nat} : ∀ k, k ≤ P.length → plt (P ++ [x]) s k = plt P s k
  | 0, _ => rfl
  | k + 1, h => by simp only [plt]; rw [List.getElem?_append_left (by omega), plt_app k (by omega)]
def pd_ok (x : pd_T) : Prop := x.1 < 6 ∧ x.2.1 < 6 ∧ x.2.2.1.length ≤ 108 ∧ x.2.2.2.length ≤ 108 ∧ (∀ y ∈ x.2.2.1, y < 8) ∧ ∀ y ∈ x.2.2.2, y < 8
def pd_at (A : Nat → Nat → Int32) (i : Nat) (x : pd_T) : Prop := A 59 i = nI (6 * x.1 + x.2.1) ∧ A 60 i = nI (256 * x.2.2.1.length + x.2.2.2.length) ∧ sg (A 61) (240 * i) x.2.2.1 ∧ sg (A 61) (240 * i + 120) x.2.2.2
def pd_is (I : Nat → Int32) (A : Nat → Nat → Int32) (P : List pd_T) : Prop := I 58 = nI P.length ∧ P.length ≤ 3001 ∧ (∀ (i : Nat) (x : pd_T), P[i]? = some x → pd_at A i x ∧ pd_ok x ∧ A 62 i = plt P (psl x) i) ∧ ∀ s, s < 4096 → A 63 s = plt P s P.length
def pd_add (most : Nat) (P : List pd_T) (x : pd_T) : List pd_T := if most < x.2.2.1.length ∨ most < x.2.2.2.length then P else if 3000 < P.length ∨ x ∈ P then P else P ++ [x]
def pd_far (most : Nat) (x : pd_T) : Nat := if most < x.2.2.1.length ∨ most < x.2.2.2.length then 1 else 0
def pd_cut (p q : Nat) (u v : List Nat) : pd_T := (p, q, u.drop (lcpn u v), v.drop (lcpn u v))
set_option maxRecDepth 100000 in
set_option maxHeartbeats 4000000 in
theorem c_Mod_isPair {w : rz_w} {d : Nat} {G : rz_G} {a : Nat} {I : Nat → Int32} {A : Nat → Nat → Int32} {n c : Nat} {x y : pd_T} (h58 : I 58 = nI n) (hn : n ≤ 3000) (hc : c < 3000) (hy : pd_at A c y) (oy : pd_ok y) (ox : pd_ok x) (hx1 : sg (A 61) (240 * n) x.2.2.1) (hx2 : sg (A 61) (240 * n + 120) x.2.2.2) : rz_C w d 0 0 y_Mod_isPair m_Mod_isPair [.ref a, .int (nI c), .int (nI (6 * x.1 + x.2.1)), .int (nI (256 * x.2.2.1.length + x.2.2.2.length))] (re_put G a I A) (fun (r : Option Value) (G' : rz_G) => r = some (.int (rz_b (decide (y = x)))) ∧ G' = re_put G a I A) := by
  generalize hQ : (fun (r : Option Value) (G' : rz_G) => r = some (.int (rz_b (decide (y = x)))) ∧ G' = re_put G a I A) = Q
  obtain ⟨y1, y2, y3, y4⟩ := hy
  obtain ⟨o1, o2, o3, o4, o5, o6⟩ := id ox
  obtain ⟨p1, p2, p3, p4, p5, p6⟩ := id oy
  have hd1 : nI (256 * x.2.2.1.length + x.2.2.2.length) / nI 256 = nI x.2.2.1.length := by
    rw [nI_div (by omega) (by decide) (by decide)]; congr 1; omega
  have hd2 : nI (256 * x.2.2.1.length + x.2.2.2.length) - nI x.2.2.1.length * nI 256 = nI x.2.2.2.length := by
    rw [← hd1, nI_rem (by omega) (by decide) (by decide)]; congr 1; omega
  have hz256 : (nI 256 = 0) = False := by decide
  have hend : ∀ (b : Bool) (z5 : Option Value), b = decide (y = x) → rz_T w d 0 0 m_Mod_isPair 0 0 159 [some (.ref a), some (.int (nI c)), some (.int (nI (6 * x.1 + x.2.1))), some (.int (nI (256 * x.2.2.1.length + x.2.2.2.length))), some (.int (rz_b b)), z5] [] (re_put G a I A) Q := by
    intro b z5 hb
    refine rz_blk' [(.iload 4, 2, 0, 0), (.ireturn, 1, 0, 0)] (by decide +kernel) (Nat.le_refl _) (Nat.le_refl _) (fun K R hK hR => ?_)
    simp only [↓rx_iload, ↓rx_ireturn, ↓rx_nil, ↓ry_li0s, ↓ry_li0z, rz_set, rz_nol, rz_clr, List.set_cons_zero, List.set_cons_succ, rz_tr, Nat.reduceAdd, Int.reduceAdd, Int.reduceToNat, Int.reduceSub, Int.reduceNeg, Int.cast_ofNat_Int]
    try simp (disch := omega) only [pk_us, pk_un, va_up_self, va_up_ne, nI_add, pk_mul, nI_clamp, vp_inT, nI_ltI, nI_leI, nI_eqI, pk_sub, true_and, and_true]
    exact hR _ _ rz_b_nb (by rw [← hQ]; exact ⟨by rw [hb], rfl⟩)
  have l2 : ∀ (j i : Nat) (b : Bool), i + j = x.2.2.2.length → (b = true ↔ ((y.1 = x.1 ∧ y.2.1 = x.2.1 ∧ y.2.2.1 = x.2.2.1 ∧ y.2.2.2.length = x.2.2.2.length) ∧ ∀ k, k < i → y.2.2.2[k]? = x.2.2.2[k]?)) → rz_T w d 0 0 m_Mod_isPair 0 0 93 [some (.ref a), some (.int (nI c)), some (.int (nI (6 * x.1 + x.2.1))), some (.int (nI (256 * x.2.2.1.length + x.2.2.2.length))), some (.int (rz_b b)), some (.int (nI i))] [] (re_put G a I A) Q := by
    intro j
    induction j with
    | zero =>
      intro i b hij hb
      have hi : i = x.2.2.2.length := by omega
      refine rz_blk' [(.iload 5, 2, 0, 0), (.iload_n 3, 1, 0, 0), (.sipush 256, 3, 0, 0), (.irem, 1, 0, 0), (.if_icmp .ge 59, 3, 0, 0)] (by decide +kernel) (Nat.le_refl _) (Nat.le_refl _) (fun K R hK hR => ?_)
      simp only [rw_s256, ↓rx_if_icmp_ge, ↓rx_iload, ↓rx_iload_n3, ↓rx_irem, ↓rx_nil, ↓rx_sipush, ↓ry_i2, ↓ry_li0s, ↓ry_li0z, rz_set, rz_nol, rz_clr, List.set_cons_zero, List.set_cons_succ, rz_tr, Nat.reduceAdd, Int.reduceAdd, Int.reduceToNat, Int.reduceSub, Int.reduceNeg, Int.cast_ofNat_Int]
      try simp (disch := omega) only [hz256, hd1, hd2, not_false_eq_true, pk_us, pk_un, va_up_self, va_up_ne, nI_add, pk_mul, nI_clamp, vp_inT, nI_ltI, nI_leI, nI_eqI, pk_sub, true_and, and_true]
      refine ⟨fun q1 => hK _ _ _ _ ?_, fun q1 => by omega⟩
      refine hend b _ ?_
      rw [Bool.eq_iff_iff, hb, decide_eq_true_eq]
      constructor
      · rintro ⟨⟨c1, c2, c3, c4⟩, c5⟩
        refine Prod.ext c1 (Prod.ext c2 (Prod.ext c3 (List.ext_getElem? fun k => ?_)))
        by_cases ck : k < i
        · exact c5 k ck
        · rw [List.getElem?_eq_none (by omega), List.getElem?_eq_none (by omega)]
      · intro e; rw [e]; exact ⟨⟨rfl, rfl, rfl, rfl⟩, fun _ _ => rfl⟩
    | succ j ih =>
      intro i b hij hb
      cases b with
      | false =>
        refine rz_blk' [(.iload 5, 2, 0, 0), (.iload_n 3, 1, 0, 0), (.sipush 256, 3, 0, 0), (.irem, 1, 0, 0), (.if_icmp .ge 59, 3, 0, 0)] (by decide +kernel) (Nat.le_refl _) (Nat.le_refl _) (fun K R hK hR => ?_)
        simp only [rw_s256, ↓rx_if_icmp_ge, ↓rx_iload, ↓rx_iload_n3, ↓rx_irem, ↓rx_nil, ↓rx_sipush, ↓ry_i2, ↓ry_li0s, ↓ry_li0z, rz_set, rz_nol, rz_clr, List.set_cons_zero, List.set_cons_succ, rz_tr, Nat.reduceAdd, Int.reduceAdd, Int.reduceToNat, Int.reduceSub, Int.reduceNeg, Int.cast_ofNat_Int]
        try simp (disch := omega) only [hz256, hd1, hd2, not_false_eq_true, pk_us, pk_un, va_up_self, va_up_ne, nI_add, pk_mul, nI_clamp, vp_inT, nI_ltI, nI_leI, nI_eqI, pk_sub, true_and, and_true]
        refine ⟨fun q2 => by omega, fun q2 => hK _ _ _ _ ?_⟩
        refine rz_blk' [(.iload 4, 2, 0, 0), (.ifCond .eq 54, 3, 0, 0)] (by decide +kernel) (Nat.le_refl _) (Nat.le_refl _) (fun K R hK hR => ?_)
        simp only [↓rx_ifCond_eq, ↓rx_iload, ↓rx_nil, ↓ry_i1, ↓ry_li0s, ↓ry_li0z, rz_set, rz_nol, rz_clr, List.set_cons_zero, List.set_cons_succ, rz_tr, Nat.reduceAdd, Int.reduceAdd, Int.reduceToNat, Int.reduceSub, Int.reduceNeg, Int.cast_ofNat_Int]
        try simp (disch := omega) only [hz256, hd1, hd2, not_false_eq_true, pk_us, pk_un, va_up_self, va_up_ne, nI_add, pk_mul, nI_clamp, vp_inT, nI_ltI, nI_leI, nI_eqI, pk_sub, true_and, and_true]
        refine ⟨fun q3 => hK _ _ _ _ ?_, fun q3 => by first | exact absurd rfl q3 | exact absurd trivial q3⟩
        refine hend false _ ?_
        refine (decide_eq_false (fun e => ?_)).symm
        have := hb.mpr (by rw [e]; exact ⟨⟨rfl, rfl, rfl, rfl⟩, fun _ _ => rfl⟩)
        cases this
      | true =>
        obtain ⟨⟨c1, c2, c3, c4⟩, c5⟩ := hb.mp rfl
        have hk1 : i < y.2.2.2.length := by omega
        have hk2 : i < x.2.2.2.length := by omega
        have hcmp := sg_eq y4 hx2 (lt8 p6) (lt8 o6) hk1 hk2
        refine rz_blk' [(.iload 5, 2, 0, 0), (.iload_n 3, 1, 0, 0), (.sipush 256, 3, 0, 0), (.irem, 1, 0, 0), (.if_icmp .ge 59, 3, 0, 0)] (by decide +kernel) (Nat.le_refl _) (Nat.le_refl _) (fun K R hK hR => ?_)
        simp only [rw_s256, ↓rx_if_icmp_ge, ↓rx_iload, ↓rx_iload_n3, ↓rx_irem, ↓rx_nil, ↓rx_sipush, ↓ry_i2, ↓ry_li0s, ↓ry_li0z, h58, rz_set, rz_nol, rz_clr, List.set_cons_zero, List.set_cons_succ, rz_tr, Nat.reduceAdd, Int.reduceAdd, Int.reduceToNat, Int.reduceSub, Int.reduceNeg, Int.cast_ofNat_Int]
        try simp (disch := omega) only [h58, hz256, hd1, hd2, not_false_eq_true, hcmp, pk_us, pk_un, va_up_self, va_up_ne, nI_add, pk_mul, nI_clamp, vp_inT, nI_ltI, nI_leI, nI_eqI, pk_sub, true_and, and_true]
        refine ⟨fun q4 => by omega, fun q4 => hK _ _ _ _ ?_⟩
        refine rz_blk' [(.iload 4, 2, 0, 0), (.ifCond .eq 54, 3, 0, 0)] (by decide +kernel) (Nat.le_refl _) (Nat.le_refl _) (fun K R hK hR => ?_)
        simp only [↓rx_ifCond_eq, ↓rx_iload, ↓rx_nil, ↓ry_i1, ↓ry_li0s, ↓ry_li0z, h58, rz_set, rz_nol, rz_clr, List.set_cons_zero, List.set_cons_succ, rz_tr, Nat.reduceAdd, Int.reduceAdd, Int.reduceToNat, Int.reduceSub, Int.reduceNeg, Int.cast_ofNat_Int]
        try simp (disch := omega) only [h58, hz256, hd1, hd2, not_false_eq_true, hcmp, pk_us, pk_un, va_up_self, va_up_ne, nI_add, pk_mul, nI_clamp, vp_inT, nI_ltI, nI_leI, nI_eqI, pk_sub, true_and, and_true]
        refine ⟨fun q5 => absurd q5 (by decide), fun q5 => hK _ _ _ _ ?_⟩
        refine rz_blk' [(.aload_n 0, 1, 0, 0), (.getfield 157, 3, 10, 61), (.sipush 240, 3, 0, 0), (.iload_n 1, 1, 0, 0), (.imul, 1, 0, 0), (.bipush 120, 2, 0, 0), (.iadd, 1, 0, 0), (.iload 5, 2, 0, 0), (.iadd, 1, 0, 0), (.iaload, 1, 0, 0), (.aload_n 0, 1, 0, 0), (.getfield 157, 3, 10, 61), (.sipush 240, 3, 0, 0), (.aload_n 0, 1, 0, 0), (.getfield 348, 3, 10, 58), (.imul, 1, 0, 0), (.bipush 120, 2, 0, 0), (.iadd, 1, 0, 0), (.iload 5, 2, 0, 0), (.iadd, 1, 0, 0), (.iaload, 1, 0, 0), (.if_icmp .ne 7, 3, 0, 0)] (by decide +kernel) (Nat.le_refl _) (Nat.le_refl _) (fun K R hK hR => ?_)
        simp only [rw_b120, rw_s240, ↓rx_aload_n0, ↓rx_bipush, ↓rx_getfield, ↓rx_iadd, ↓rx_iaload, ↓rx_if_icmp_ne, ↓rx_iload, ↓rx_iload_n1, ↓rx_imul, ↓rx_nil, ↓rx_sipush, ↓ry_i2, ↓ry_iau, ↓ry_li0s, ↓ry_li0z, ↓ry_lr0s, ↓ry_lr0z, ↓ry_obu, ↓ry_r1, ↓ry_ri, true_and, re_a61, ↓re_F58, ↓re_F61, ↓re_i61, ↓re_ob, h58, rz_set, rz_nol, rz_clr, List.set_cons_zero, List.set_cons_succ, rz_tr, Nat.reduceAdd, Int.reduceAdd, Int.reduceToNat, Int.reduceSub, Int.reduceNeg, Int.cast_ofNat_Int]
        try simp (disch := omega) only [h58, hz256, hd1, hd2, not_false_eq_true, hcmp, pk_us, pk_un, va_up_self, va_up_ne, nI_add, pk_mul, nI_clamp, vp_inT, nI_ltI, nI_leI, nI_eqI, pk_sub, true_and, and_true]
        refine ⟨fun q6 => hK _ _ _ _ ?_, fun q6 => hK _ _ _ _ ?_⟩
        · -- 143 taken
          refine rz_blk' [(.iconst 0, 1, 0, 0), (.istore 4, 2, 0, 0)] (by decide +kernel) (Nat.le_refl _) (Nat.le_refl _) (fun K R hK hR => ?_)
          simp only [rw_c0, ↓rx_iconst, ↓rx_istore, ↓rx_nil, ↓ry_i1, h58, rz_set, rz_nol, rz_clr, List.set_cons_zero, List.set_cons_succ, rz_tr, Nat.reduceAdd, Int.reduceAdd, Int.reduceToNat, Int.reduceSub, Int.reduceNeg, Int.cast_ofNat_Int]
          try simp (disch := omega) only [h58, hz256, hd1, hd2, not_false_eq_true, hcmp, pk_us, pk_un, va_up_self, va_up_ne, nI_add, pk_mul, nI_clamp, vp_inT, nI_ltI, nI_leI, nI_eqI, pk_sub, true_and, and_true]
          refine hK _ _ _ _ ?_
          refine rz_blk' [(.iinc 5 1, 3, 0, 0)] (by decide +kernel) (Nat.le_refl _) (Nat.le_refl _) (fun K R hK hR => ?_)
          simp only [rw_c1, ↓rx_iinc, ↓rx_nil, ↓ry_li0s, ↓ry_li0z, h58, rz_set, rz_nol, rz_clr, List.set_cons_zero, List.set_cons_succ, rz_tr, Nat.reduceAdd, Int.reduceAdd, Int.reduceToNat, Int.reduceSub, Int.reduceNeg, Int.cast_ofNat_Int]
          try simp (disch := omega) only [h58, hz256, hd1, hd2, not_false_eq_true, hcmp, pk_us, pk_un, va_up_self, va_up_ne, nI_add, pk_mul, nI_clamp, vp_inT, nI_ltI, nI_leI, nI_eqI, pk_sub, true_and, and_true]
          refine hK _ _ _ _ ?_
          refine rz_blk' [(.goto (-63), 3, 0, 0)] (by decide +kernel) (Nat.le_refl _) (Nat.le_refl _) (fun K R hK hR => ?_)
          simp only [↓rx_goto, ↓rx_nil, h58, rz_set, rz_nol, rz_clr, List.set_cons_zero, List.set_cons_succ, rz_tr, Nat.reduceAdd, Int.reduceAdd, Int.reduceToNat, Int.reduceSub, Int.reduceNeg, Int.cast_ofNat_Int]
          try simp (disch := omega) only [h58, hz256, hd1, hd2, not_false_eq_true, hcmp, pk_us, pk_un, va_up_self, va_up_ne, nI_add, pk_mul, nI_clamp, vp_inT, nI_ltI, nI_leI, nI_eqI, pk_sub, true_and, and_true]
          refine hK _ _ _ _ ?_
          first
            | (refine ih (i + 1) true (by omega) ⟨fun _ => ⟨⟨c1, c2, c3, c4⟩, fun k hk => ?_⟩, fun _ => rfl⟩
               by_cases ck : k = i
               · subst ck; rw [List.getElem?_eq_getElem hk1, List.getElem?_eq_getElem hk2]; exact congrArg some (by simpa using q6)
               · exact c5 k (by omega))
            | (refine ih (i + 1) false (by omega) ⟨fun q => (by cases q), fun ⟨_, hk⟩ => ?_⟩
               have := hk i (by omega)
               rw [List.getElem?_eq_getElem hk1, List.getElem?_eq_getElem hk2] at this
               exact absurd (Option.some.inj this) q6)
        · -- 143 not taken
          refine rz_blk' [(.iconst 1, 1, 0, 0), (.goto 4, 3, 0, 0)] (by decide +kernel) (Nat.le_refl _) (Nat.le_refl _) (fun K R hK hR => ?_)
          simp only [rw_c1, ↓rx_goto, ↓rx_iconst, ↓rx_nil, h58, rz_set, rz_nol, rz_clr, List.set_cons_zero, List.set_cons_succ, rz_tr, Nat.reduceAdd, Int.reduceAdd, Int.reduceToNat, Int.reduceSub, Int.reduceNeg, Int.cast_ofNat_Int]
          try simp (disch := omega) only [h58, hz256, hd1, hd2, not_false_eq_true, hcmp, pk_us, pk_un, va_up_self, va_up_ne, nI_add, pk_mul, nI_clamp, vp_inT, nI_ltI, nI_leI, nI_eqI, pk_sub, true_and, and_true]
          refine hK _ _ _ _ ?_
          refine rz_blk' [(.istore 4, 2, 0, 0)] (by decide +kernel) (Nat.le_refl _) (Nat.le_refl _) (fun K R hK hR => ?_)
          simp only [↓rx_istore, ↓rx_nil, ↓ry_i1, h58, rz_set, rz_nol, rz_clr, List.set_cons_zero, List.set_cons_succ, rz_tr, Nat.reduceAdd, Int.reduceAdd, Int.reduceToNat, Int.reduceSub, Int.reduceNeg, Int.cast_ofNat_Int]
          try simp (disch := omega) only [h58, hz256, hd1, hd2, not_false_eq_true, hcmp, pk_us, pk_un, va_up_self, va_up_ne, nI_add, pk_mul, nI_clamp, vp_inT, nI_ltI, nI_leI, nI_eqI, pk_sub, true_and, and_true]
          refine hK _ _ _ _ ?_
          refine rz_blk' [(.iinc 5 1, 3, 0, 0)] (by decide +kernel) (Nat.le_refl _) (Nat.le_refl _) (fun K R hK hR => ?_)
          simp only [rw_c1, ↓rx_iinc, ↓rx_nil, ↓ry_li0s, ↓ry_li0z, h58, rz_set, rz_nol, rz_clr, List.set_cons_zero, List.set_cons_succ, rz_tr, Nat.reduceAdd, Int.reduceAdd, Int.reduceToNat, Int.reduceSub, Int.reduceNeg, Int.cast_ofNat_Int]
          try simp (disch := omega) only [h58, hz256, hd1, hd2, not_false_eq_true, hcmp, pk_us, pk_un, va_up_self, va_up_ne, nI_add, pk_mul, nI_clamp, vp_inT, nI_ltI, nI_leI, nI_eqI, pk_sub, true_and, and_true]
          refine hK _ _ _ _ ?_
          refine rz_blk' [(.goto (-63), 3, 0, 0)] (by decide +kernel) (Nat.le_refl _) (Nat.le_refl _) (fun K R hK hR => ?_)
          simp only [↓rx_goto, ↓rx_nil, h58, rz_set, rz_nol, rz_clr, List.set_cons_zero, List.set_cons_succ, rz_tr, Nat.reduceAdd, Int.reduceAdd, Int.reduceToNat, Int.reduceSub, Int.reduceNeg, Int.cast_ofNat_Int]
          try simp (disch := omega) only [h58, hz256, hd1, hd2, not_false_eq_true, hcmp, pk_us, pk_un, va_up_self, va_up_ne, nI_add, pk_mul, nI_clamp, vp_inT, nI_ltI, nI_leI, nI_eqI, pk_sub, true_and, and_true]
          refine hK _ _ _ _ ?_
          first
            | (refine ih (i + 1) true (by omega) ⟨fun _ => ⟨⟨c1, c2, c3, c4⟩, fun k hk => ?_⟩, fun _ => rfl⟩
               by_cases ck : k = i
               · subst ck; rw [List.getElem?_eq_getElem hk1, List.getElem?_eq_getElem hk2]; exact congrArg some (by simpa using q6)
               · exact c5 k (by omega))
            | (refine ih (i + 1) false (by omega) ⟨fun q => (by cases q), fun ⟨_, hk⟩ => ?_⟩
               have := hk i (by omega)
               rw [List.getElem?_eq_getElem hk1, List.getElem?_eq_getElem hk2] at this
               exact absurd (Option.some.inj this) q6)
  have l1 : ∀ (j i : Nat) (b : Bool), i + j = x.2.2.1.length → (b = true ↔ ((y.1 = x.1 ∧ y.2.1 = x.2.1 ∧ y.2.2.1.length = x.2.2.1.length ∧ y.2.2.2.length = x.2.2.2.length) ∧ ∀ k, k < i → y.2.2.1[k]? = x.2.2.1[k]?)) → rz_T w d 0 0 m_Mod_isPair 0 0 30 [some (.ref a), some (.int (nI c)), some (.int (nI (6 * x.1 + x.2.1))), some (.int (nI (256 * x.2.2.1.length + x.2.2.2.length))), some (.int (rz_b b)), some (.int (nI i))] [] (re_put G a I A) Q := by
    intro j
    induction j with
    | zero =>
      intro i b hij hb
      have hi : i = x.2.2.1.length := by omega
      refine rz_blk' [(.iload 5, 2, 0, 0), (.iload_n 3, 1, 0, 0), (.sipush 256, 3, 0, 0), (.idiv, 1, 0, 0), (.if_icmp .ge 53, 3, 0, 0)] (by decide +kernel) (Nat.le_refl _) (Nat.le_refl _) (fun K R hK hR => ?_)
      simp only [rw_s256, ↓rx_idiv, ↓rx_if_icmp_ge, ↓rx_iload, ↓rx_iload_n3, ↓rx_nil, ↓rx_sipush, ↓ry_i2, ↓ry_li0s, ↓ry_li0z, rz_set, rz_nol, rz_clr, List.set_cons_zero, List.set_cons_succ, rz_tr, Nat.reduceAdd, Int.reduceAdd, Int.reduceToNat, Int.reduceSub, Int.reduceNeg, Int.cast_ofNat_Int]
      try simp (disch := omega) only [hz256, hd1, hd2, not_false_eq_true, pk_us, pk_un, va_up_self, va_up_ne, nI_add, pk_mul, nI_clamp, vp_inT, nI_ltI, nI_leI, nI_eqI, pk_sub, true_and, and_true]
      refine ⟨fun q7 => hK _ _ _ _ ?_, fun q7 => by omega⟩
      refine rz_blk' [(.iconst 0, 1, 0, 0), (.istore 5, 2, 0, 0)] (by decide +kernel) (Nat.le_refl _) (Nat.le_refl _) (fun K R hK hR => ?_)
      simp only [rw_c0, ↓rx_iconst, ↓rx_istore, ↓rx_nil, ↓ry_i1, rz_set, rz_nol, rz_clr, List.set_cons_zero, List.set_cons_succ, rz_tr, Nat.reduceAdd, Int.reduceAdd, Int.reduceToNat, Int.reduceSub, Int.reduceNeg, Int.cast_ofNat_Int]
      try simp (disch := omega) only [hz256, hd1, hd2, not_false_eq_true, pk_us, pk_un, va_up_self, va_up_ne, nI_add, pk_mul, nI_clamp, vp_inT, nI_ltI, nI_leI, nI_eqI, pk_sub, true_and, and_true]
      refine hK _ _ _ _ ?_
      refine l2 x.2.2.2.length 0 b (Nat.zero_add _) ?_
      rw [hb]
      constructor
      · rintro ⟨⟨c1, c2, c3, c4⟩, c5⟩
        refine ⟨⟨c1, c2, List.ext_getElem? fun k => ?_, c4⟩, fun k hk => absurd hk (Nat.not_lt_zero _)⟩
        by_cases ck : k < i
        · exact c5 k ck
        · rw [List.getElem?_eq_none (by omega), List.getElem?_eq_none (by omega)]
      · rintro ⟨⟨c1, c2, c3, c4⟩, c5⟩
        exact ⟨⟨c1, c2, by rw [c3], c4⟩, fun k _ => by rw [c3]⟩
    | succ j ih =>
      intro i b hij hb
      cases b with
      | false =>
        refine rz_blk' [(.iload 5, 2, 0, 0), (.iload_n 3, 1, 0, 0), (.sipush 256, 3, 0, 0), (.idiv, 1, 0, 0), (.if_icmp .ge 53, 3, 0, 0)] (by decide +kernel) (Nat.le_refl _) (Nat.le_refl _) (fun K R hK hR => ?_)
        simp only [rw_s256, ↓rx_idiv, ↓rx_if_icmp_ge, ↓rx_iload, ↓rx_iload_n3, ↓rx_nil, ↓rx_sipush, ↓ry_i2, ↓ry_li0s, ↓ry_li0z, rz_set, rz_nol, rz_clr, List.set_cons_zero, List.set_cons_succ, rz_tr, Nat.reduceAdd, Int.reduceAdd, Int.reduceToNat, Int.reduceSub, Int.reduceNeg, Int.cast_ofNat_Int]
        try simp (disch := omega) only [hz256, hd1, hd2, not_false_eq_true, pk_us, pk_un, va_up_self, va_up_ne, nI_add, pk_mul, nI_clamp, vp_inT, nI_ltI, nI_leI, nI_eqI, pk_sub, true_and, and_true]
        refine ⟨fun q8 => by omega, fun q8 => hK _ _ _ _ ?_⟩
        refine rz_blk' [(.iload 4, 2, 0, 0), (.ifCond .eq 48, 3, 0, 0)] (by decide +kernel) (Nat.le_refl _) (Nat.le_refl _) (fun K R hK hR => ?_)
        simp only [↓rx_ifCond_eq, ↓rx_iload, ↓rx_nil, ↓ry_i1, ↓ry_li0s, ↓ry_li0z, rz_set, rz_nol, rz_clr, List.set_cons_zero, List.set_cons_succ, rz_tr, Nat.reduceAdd, Int.reduceAdd, Int.reduceToNat, Int.reduceSub, Int.reduceNeg, Int.cast_ofNat_Int]
        try simp (disch := omega) only [hz256, hd1, hd2, not_false_eq_true, pk_us, pk_un, va_up_self, va_up_ne, nI_add, pk_mul, nI_clamp, vp_inT, nI_ltI, nI_leI, nI_eqI, pk_sub, true_and, and_true]
        refine ⟨fun q9 => hK _ _ _ _ ?_, fun q9 => by first | exact absurd rfl q9 | exact absurd trivial q9⟩
        refine rz_blk' [(.iconst 0, 1, 0, 0), (.istore 5, 2, 0, 0)] (by decide +kernel) (Nat.le_refl _) (Nat.le_refl _) (fun K R hK hR => ?_)
        simp only [rw_c0, ↓rx_iconst, ↓rx_istore, ↓rx_nil, ↓ry_i1, rz_set, rz_nol, rz_clr, List.set_cons_zero, List.set_cons_succ, rz_tr, Nat.reduceAdd, Int.reduceAdd, Int.reduceToNat, Int.reduceSub, Int.reduceNeg, Int.cast_ofNat_Int]
        try simp (disch := omega) only [hz256, hd1, hd2, not_false_eq_true, pk_us, pk_un, va_up_self, va_up_ne, nI_add, pk_mul, nI_clamp, vp_inT, nI_ltI, nI_leI, nI_eqI, pk_sub, true_and, and_true]
        refine hK _ _ _ _ ?_
        refine l2 x.2.2.2.length 0 false (Nat.zero_add _) ?_
        constructor
        · intro q; cases q
        · rintro ⟨⟨c1, c2, c3, c4⟩, c5⟩
          exact hb.mpr ⟨⟨c1, c2, by rw [c3], c4⟩, fun k _ => by rw [c3]⟩
      | true =>
        obtain ⟨⟨c1, c2, c3, c4⟩, c5⟩ := hb.mp rfl
        have hk1 : i < y.2.2.1.length := by omega
        have hk2 : i < x.2.2.1.length := by omega
        have hcmp := sg_eq y3 hx1 (lt8 p5) (lt8 o5) hk1 hk2
        refine rz_blk' [(.iload 5, 2, 0, 0), (.iload_n 3, 1, 0, 0), (.sipush 256, 3, 0, 0), (.idiv, 1, 0, 0), (.if_icmp .ge 53, 3, 0, 0)] (by decide +kernel) (Nat.le_refl _) (Nat.le_refl _) (fun K R hK hR => ?_)
        simp only [rw_s256, ↓rx_idiv, ↓rx_if_icmp_ge, ↓rx_iload, ↓rx_iload_n3, ↓rx_nil, ↓rx_sipush, ↓ry_i2, ↓ry_li0s, ↓ry_li0z, h58, rz_set, rz_nol, rz_clr, List.set_cons_zero, List.set_cons_succ, rz_tr, Nat.reduceAdd, Int.reduceAdd, Int.reduceToNat, Int.reduceSub, Int.reduceNeg, Int.cast_ofNat_Int]
        try simp (disch := omega) only [h58, hz256, hd1, hd2, not_false_eq_true, hcmp, pk_us, pk_un, va_up_self, va_up_ne, nI_add, pk_mul, nI_clamp, vp_inT, nI_ltI, nI_leI, nI_eqI, pk_sub, true_and, and_true]
        refine ⟨fun q10 => by omega, fun q10 => hK _ _ _ _ ?_⟩
        refine rz_blk' [(.iload 4, 2, 0, 0), (.ifCond .eq 48, 3, 0, 0)] (by decide +kernel) (Nat.le_refl _) (Nat.le_refl _) (fun K R hK hR => ?_)
        simp only [↓rx_ifCond_eq, ↓rx_iload, ↓rx_nil, ↓ry_i1, ↓ry_li0s, ↓ry_li0z, h58, rz_set, rz_nol, rz_clr, List.set_cons_zero, List.set_cons_succ, rz_tr, Nat.reduceAdd, Int.reduceAdd, Int.reduceToNat, Int.reduceSub, Int.reduceNeg, Int.cast_ofNat_Int]
        try simp (disch := omega) only [h58, hz256, hd1, hd2, not_false_eq_true, hcmp, pk_us, pk_un, va_up_self, va_up_ne, nI_add, pk_mul, nI_clamp, vp_inT, nI_ltI, nI_leI, nI_eqI, pk_sub, true_and, and_true]
        refine ⟨fun q11 => absurd q11 (by decide), fun q11 => hK _ _ _ _ ?_⟩
        refine rz_blk' [(.aload_n 0, 1, 0, 0), (.getfield 157, 3, 10, 61), (.sipush 240, 3, 0, 0), (.iload_n 1, 1, 0, 0), (.imul, 1, 0, 0), (.iload 5, 2, 0, 0), (.iadd, 1, 0, 0), (.iaload, 1, 0, 0), (.aload_n 0, 1, 0, 0), (.getfield 157, 3, 10, 61), (.sipush 240, 3, 0, 0), (.aload_n 0, 1, 0, 0), (.getfield 348, 3, 10, 58), (.imul, 1, 0, 0), (.iload 5, 2, 0, 0), (.iadd, 1, 0, 0), (.iaload, 1, 0, 0), (.if_icmp .ne 7, 3, 0, 0)] (by decide +kernel) (Nat.le_refl _) (Nat.le_refl _) (fun K R hK hR => ?_)
        simp only [rw_s240, ↓rx_aload_n0, ↓rx_getfield, ↓rx_iadd, ↓rx_iaload, ↓rx_if_icmp_ne, ↓rx_iload, ↓rx_iload_n1, ↓rx_imul, ↓rx_nil, ↓rx_sipush, ↓ry_i2, ↓ry_iau, ↓ry_li0s, ↓ry_li0z, ↓ry_lr0s, ↓ry_lr0z, ↓ry_obu, ↓ry_r1, ↓ry_ri, true_and, re_a61, ↓re_F58, ↓re_F61, ↓re_i61, ↓re_ob, h58, rz_set, rz_nol, rz_clr, List.set_cons_zero, List.set_cons_succ, rz_tr, Nat.reduceAdd, Int.reduceAdd, Int.reduceToNat, Int.reduceSub, Int.reduceNeg, Int.cast_ofNat_Int]
        try simp (disch := omega) only [h58, hz256, hd1, hd2, not_false_eq_true, hcmp, pk_us, pk_un, va_up_self, va_up_ne, nI_add, pk_mul, nI_clamp, vp_inT, nI_ltI, nI_leI, nI_eqI, pk_sub, true_and, and_true]
        refine ⟨fun q12 => hK _ _ _ _ ?_, fun q12 => hK _ _ _ _ ?_⟩
        · -- 74 taken
          refine rz_blk' [(.iconst 0, 1, 0, 0), (.istore 4, 2, 0, 0)] (by decide +kernel) (Nat.le_refl _) (Nat.le_refl _) (fun K R hK hR => ?_)
          simp only [rw_c0, ↓rx_iconst, ↓rx_istore, ↓rx_nil, ↓ry_i1, h58, rz_set, rz_nol, rz_clr, List.set_cons_zero, List.set_cons_succ, rz_tr, Nat.reduceAdd, Int.reduceAdd, Int.reduceToNat, Int.reduceSub, Int.reduceNeg, Int.cast_ofNat_Int]
          try simp (disch := omega) only [h58, hz256, hd1, hd2, not_false_eq_true, hcmp, pk_us, pk_un, va_up_self, va_up_ne, nI_add, pk_mul, nI_clamp, vp_inT, nI_ltI, nI_leI, nI_eqI, pk_sub, true_and, and_true]
          refine hK _ _ _ _ ?_
          refine rz_blk' [(.iinc 5 1, 3, 0, 0)] (by decide +kernel) (Nat.le_refl _) (Nat.le_refl _) (fun K R hK hR => ?_)
          simp only [rw_c1, ↓rx_iinc, ↓rx_nil, ↓ry_li0s, ↓ry_li0z, h58, rz_set, rz_nol, rz_clr, List.set_cons_zero, List.set_cons_succ, rz_tr, Nat.reduceAdd, Int.reduceAdd, Int.reduceToNat, Int.reduceSub, Int.reduceNeg, Int.cast_ofNat_Int]
          try simp (disch := omega) only [h58, hz256, hd1, hd2, not_false_eq_true, hcmp, pk_us, pk_un, va_up_self, va_up_ne, nI_add, pk_mul, nI_clamp, vp_inT, nI_ltI, nI_leI, nI_eqI, pk_sub, true_and, and_true]
          refine hK _ _ _ _ ?_
          refine rz_blk' [(.goto (-57), 3, 0, 0)] (by decide +kernel) (Nat.le_refl _) (Nat.le_refl _) (fun K R hK hR => ?_)
          simp only [↓rx_goto, ↓rx_nil, h58, rz_set, rz_nol, rz_clr, List.set_cons_zero, List.set_cons_succ, rz_tr, Nat.reduceAdd, Int.reduceAdd, Int.reduceToNat, Int.reduceSub, Int.reduceNeg, Int.cast_ofNat_Int]
          try simp (disch := omega) only [h58, hz256, hd1, hd2, not_false_eq_true, hcmp, pk_us, pk_un, va_up_self, va_up_ne, nI_add, pk_mul, nI_clamp, vp_inT, nI_ltI, nI_leI, nI_eqI, pk_sub, true_and, and_true]
          refine hK _ _ _ _ ?_
          first
            | (refine ih (i + 1) true (by omega) ⟨fun _ => ⟨⟨c1, c2, c3, c4⟩, fun k hk => ?_⟩, fun _ => rfl⟩
               by_cases ck : k = i
               · subst ck; rw [List.getElem?_eq_getElem hk1, List.getElem?_eq_getElem hk2]; exact congrArg some (by simpa using q12)
               · exact c5 k (by omega))
            | (refine ih (i + 1) false (by omega) ⟨fun q => (by cases q), fun ⟨_, hk⟩ => ?_⟩
               have := hk i (by omega)
               rw [List.getElem?_eq_getElem hk1, List.getElem?_eq_getElem hk2] at this
               exact absurd (Option.some.inj this) q12)
        · -- 74 not taken
          refine rz_blk' [(.iconst 1, 1, 0, 0), (.goto 4, 3, 0, 0)] (by decide +kernel) (Nat.le_refl _) (Nat.le_refl _) (fun K R hK hR => ?_)
          simp only [rw_c1, ↓rx_goto, ↓rx_iconst, ↓rx_nil, h58, rz_set, rz_nol, rz_clr, List.set_cons_zero, List.set_cons_succ, rz_tr, Nat.reduceAdd, Int.reduceAdd, Int.reduceToNat, Int.reduceSub, Int.reduceNeg, Int.cast_ofNat_Int]
          try simp (disch := omega) only [h58, hz256, hd1, hd2, not_false_eq_true, hcmp, pk_us, pk_un, va_up_self, va_up_ne, nI_add, pk_mul, nI_clamp, vp_inT, nI_ltI, nI_leI, nI_eqI, pk_sub, true_and, and_true]
          refine hK _ _ _ _ ?_
          refine rz_blk' [(.istore 4, 2, 0, 0)] (by decide +kernel) (Nat.le_refl _) (Nat.le_refl _) (fun K R hK hR => ?_)
          simp only [↓rx_istore, ↓rx_nil, ↓ry_i1, h58, rz_set, rz_nol, rz_clr, List.set_cons_zero, List.set_cons_succ, rz_tr, Nat.reduceAdd, Int.reduceAdd, Int.reduceToNat, Int.reduceSub, Int.reduceNeg, Int.cast_ofNat_Int]
          try simp (disch := omega) only [h58, hz256, hd1, hd2, not_false_eq_true, hcmp, pk_us, pk_un, va_up_self, va_up_ne, nI_add, pk_mul, nI_clamp, vp_inT, nI_ltI, nI_leI, nI_eqI, pk_sub, true_and, and_true]
          refine hK _ _ _ _ ?_
          refine rz_blk' [(.iinc 5 1, 3, 0, 0)] (by decide +kernel) (Nat.le_refl _) (Nat.le_refl _) (fun K R hK hR => ?_)
          simp only [rw_c1, ↓rx_iinc, ↓rx_nil, ↓ry_li0s, ↓ry_li0z, h58, rz_set, rz_nol, rz_clr, List.set_cons_zero, List.set_cons_succ, rz_tr, Nat.reduceAdd, Int.reduceAdd, Int.reduceToNat, Int.reduceSub, Int.reduceNeg, Int.cast_ofNat_Int]
          try simp (disch := omega) only [h58, hz256, hd1, hd2, not_false_eq_true, hcmp, pk_us, pk_un, va_up_self, va_up_ne, nI_add, pk_mul, nI_clamp, vp_inT, nI_ltI, nI_leI, nI_eqI, pk_sub, true_and, and_true]
          refine hK _ _ _ _ ?_
          refine rz_blk' [(.goto (-57), 3, 0, 0)] (by decide +kernel) (Nat.le_refl _) (Nat.le_refl _) (fun K R hK hR => ?_)
          simp only [↓rx_goto, ↓rx_nil, h58, rz_set, rz_nol, rz_clr, List.set_cons_zero, List.set_cons_succ, rz_tr, Nat.reduceAdd, Int.reduceAdd, Int.reduceToNat, Int.reduceSub, Int.reduceNeg, Int.cast_ofNat_Int]
          try simp (disch := omega) only [h58, hz256, hd1, hd2, not_false_eq_true, hcmp, pk_us, pk_un, va_up_self, va_up_ne, nI_add, pk_mul, nI_clamp, vp_inT, nI_ltI, nI_leI, nI_eqI, pk_sub, true_and, and_true]
          refine hK _ _ _ _ ?_
          first
            | (refine ih (i + 1) true (by omega) ⟨fun _ => ⟨⟨c1, c2, c3, c4⟩, fun k hk => ?_⟩, fun _ => rfl⟩
               by_cases ck : k = i
               · subst ck; rw [List.getElem?_eq_getElem hk1, List.getElem?_eq_getElem hk2]; exact congrArg some (by simpa using q12)
               · exact c5 k (by omega))
            | (refine ih (i + 1) false (by omega) ⟨fun q => (by cases q), fun ⟨_, hk⟩ => ?_⟩
               have := hk i (by omega)
               rw [List.getElem?_eq_getElem hk1, List.getElem?_eq_getElem hk2] at this
               exact absurd (Option.some.inj this) q12)
  refine rz_enter' [some (.ref a), some (.int (nI c)), some (.int (nI (6 * x.1 + x.2.1))), some (.int (nI (256 * x.2.2.1.length + x.2.2.2.length))), none, none] (by decide +kernel) rfl rfl (Nat.le_of_ble_eq_true rfl) rfl ?_
  refine rz_blk' [(.aload_n 0, 1, 0, 0), (.getfield 150, 3, 10, 59), (.iload_n 1, 1, 0, 0), (.iaload, 1, 0, 0), (.iload_n 2, 1, 0, 0), (.if_icmp .ne 17, 3, 0, 0)] (by decide +kernel) (Nat.le_refl _) (Nat.le_refl _) (fun K R hK hR => ?_)
  simp only [↓rx_aload_n0, ↓rx_getfield, ↓rx_iaload, ↓rx_if_icmp_ne, ↓rx_iload_n1, ↓rx_iload_n2, ↓rx_nil, ↓ry_i2, ↓ry_iau, ↓ry_li0s, ↓ry_li0z, ↓ry_lr0s, ↓ry_lr0z, ↓ry_obu, ↓ry_r1, ↓ry_ri, true_and, re_a59, ↓re_F59, ↓re_i59, ↓re_ob, y1, y2, rz_set, rz_nol, rz_clr, List.set_cons_zero, List.set_cons_succ, rz_tr, Nat.reduceAdd, Int.reduceAdd, Int.reduceToNat, Int.reduceSub, Int.reduceNeg, Int.cast_ofNat_Int]
  try simp (disch := omega) only [y1, y2, pk_us, pk_un, va_up_self, va_up_ne, nI_add, pk_mul, nI_clamp, vp_inT, nI_ltI, nI_leI, nI_eqI, pk_sub, true_and, and_true]
  refine ⟨fun q13 => hK _ _ _ _ ?_, fun q13 => hK _ _ _ _ ?_⟩
  · -- 7 taken
    refine rz_blk' [(.iconst 0, 1, 0, 0), (.istore 4, 2, 0, 0)] (by decide +kernel) (Nat.le_refl _) (Nat.le_refl _) (fun K R hK hR => ?_)
    simp only [rw_c0, ↓rx_iconst, ↓rx_istore, ↓rx_nil, ↓ry_i1, y1, y2, rz_set, rz_nol, rz_clr, List.set_cons_zero, List.set_cons_succ, rz_tr, Nat.reduceAdd, Int.reduceAdd, Int.reduceToNat, Int.reduceSub, Int.reduceNeg, Int.cast_ofNat_Int]
    try simp (disch := omega) only [y1, y2, pk_us, pk_un, va_up_self, va_up_ne, nI_add, pk_mul, nI_clamp, vp_inT, nI_ltI, nI_leI, nI_eqI, pk_sub, true_and, and_true]
    refine hK _ _ _ _ ?_
    refine rz_blk' [(.iconst 0, 1, 0, 0), (.istore 5, 2, 0, 0)] (by decide +kernel) (Nat.le_refl _) (Nat.le_refl _) (fun K R hK hR => ?_)
    simp only [rw_c0, ↓rx_iconst, ↓rx_istore, ↓rx_nil, ↓ry_i1, y1, y2, rz_set, rz_nol, rz_clr, List.set_cons_zero, List.set_cons_succ, rz_tr, Nat.reduceAdd, Int.reduceAdd, Int.reduceToNat, Int.reduceSub, Int.reduceNeg, Int.cast_ofNat_Int]
    try simp (disch := omega) only [y1, y2, pk_us, pk_un, va_up_self, va_up_ne, nI_add, pk_mul, nI_clamp, vp_inT, nI_ltI, nI_leI, nI_eqI, pk_sub, true_and, and_true]
    refine hK _ _ _ _ ?_
    first
      | exact l1 x.2.2.1.length 0 true (Nat.zero_add _) ⟨fun _ => ⟨⟨by omega, by omega, by omega, by omega⟩, fun k hk => absurd hk (Nat.not_lt_zero _)⟩, fun _ => rfl⟩
      | exact l1 x.2.2.1.length 0 false (Nat.zero_add _) ⟨fun q => (by cases q), fun ⟨⟨c1, c2, c3, c4⟩, _⟩ => absurd q13 (by simp only [Classical.not_not]; omega)⟩
  · -- 7 not taken
    refine rz_blk' [(.aload_n 0, 1, 0, 0), (.getfield 153, 3, 10, 60), (.iload_n 1, 1, 0, 0), (.iaload, 1, 0, 0), (.iload_n 3, 1, 0, 0), (.if_icmp .ne 7, 3, 0, 0)] (by decide +kernel) (Nat.le_refl _) (Nat.le_refl _) (fun K R hK hR => ?_)
    simp only [↓rx_aload_n0, ↓rx_getfield, ↓rx_iaload, ↓rx_if_icmp_ne, ↓rx_iload_n1, ↓rx_iload_n3, ↓rx_nil, ↓ry_i2, ↓ry_iau, ↓ry_li0s, ↓ry_li0z, ↓ry_lr0s, ↓ry_lr0z, ↓ry_obu, ↓ry_r1, ↓ry_ri, true_and, re_a60, ↓re_F60, ↓re_i60, ↓re_ob, y1, y2, rz_set, rz_nol, rz_clr, List.set_cons_zero, List.set_cons_succ, rz_tr, Nat.reduceAdd, Int.reduceAdd, Int.reduceToNat, Int.reduceSub, Int.reduceNeg, Int.cast_ofNat_Int]
    try simp (disch := omega) only [y1, y2, pk_us, pk_un, va_up_self, va_up_ne, nI_add, pk_mul, nI_clamp, vp_inT, nI_ltI, nI_leI, nI_eqI, pk_sub, true_and, and_true]
    refine ⟨fun q14 => hK _ _ _ _ ?_, fun q14 => hK _ _ _ _ ?_⟩
    · -- 17 taken
      refine rz_blk' [(.iconst 0, 1, 0, 0), (.istore 4, 2, 0, 0)] (by decide +kernel) (Nat.le_refl _) (Nat.le_refl _) (fun K R hK hR => ?_)
      simp only [rw_c0, ↓rx_iconst, ↓rx_istore, ↓rx_nil, ↓ry_i1, y1, y2, rz_set, rz_nol, rz_clr, List.set_cons_zero, List.set_cons_succ, rz_tr, Nat.reduceAdd, Int.reduceAdd, Int.reduceToNat, Int.reduceSub, Int.reduceNeg, Int.cast_ofNat_Int]
      try simp (disch := omega) only [y1, y2, pk_us, pk_un, va_up_self, va_up_ne, nI_add, pk_mul, nI_clamp, vp_inT, nI_ltI, nI_leI, nI_eqI, pk_sub, true_and, and_true]
      refine hK _ _ _ _ ?_
      refine rz_blk' [(.iconst 0, 1, 0, 0), (.istore 5, 2, 0, 0)] (by decide +kernel) (Nat.le_refl _) (Nat.le_refl _) (fun K R hK hR => ?_)
      simp only [rw_c0, ↓rx_iconst, ↓rx_istore, ↓rx_nil, ↓ry_i1, y1, y2, rz_set, rz_nol, rz_clr, List.set_cons_zero, List.set_cons_succ, rz_tr, Nat.reduceAdd, Int.reduceAdd, Int.reduceToNat, Int.reduceSub, Int.reduceNeg, Int.cast_ofNat_Int]
      try simp (disch := omega) only [y1, y2, pk_us, pk_un, va_up_self, va_up_ne, nI_add, pk_mul, nI_clamp, vp_inT, nI_ltI, nI_leI, nI_eqI, pk_sub, true_and, and_true]
      refine hK _ _ _ _ ?_
      first
        | exact l1 x.2.2.1.length 0 true (Nat.zero_add _) ⟨fun _ => ⟨⟨by omega, by omega, by omega, by omega⟩, fun k hk => absurd hk (Nat.not_lt_zero _)⟩, fun _ => rfl⟩
        | exact l1 x.2.2.1.length 0 false (Nat.zero_add _) ⟨fun q => (by cases q), fun ⟨⟨c1, c2, c3, c4⟩, _⟩ => absurd q14 (by simp only [Classical.not_not]; omega)⟩
    · -- 17 not taken
      refine rz_blk' [(.iconst 1, 1, 0, 0), (.goto 4, 3, 0, 0)] (by decide +kernel) (Nat.le_refl _) (Nat.le_refl _) (fun K R hK hR => ?_)
      simp only [rw_c1, ↓rx_goto, ↓rx_iconst, ↓rx_nil, y1, y2, rz_set, rz_nol, rz_clr, List.set_cons_zero, List.set_cons_succ, rz_tr, Nat.reduceAdd, Int.reduceAdd, Int.reduceToNat, Int.reduceSub, Int.reduceNeg, Int.cast_ofNat_Int]
      try simp (disch := omega) only [y1, y2, pk_us, pk_un, va_up_self, va_up_ne, nI_add, pk_mul, nI_clamp, vp_inT, nI_ltI, nI_leI, nI_eqI, pk_sub, true_and, and_true]
      refine hK _ _ _ _ ?_
      refine rz_blk' [(.istore 4, 2, 0, 0)] (by decide +kernel) (Nat.le_refl _) (Nat.le_refl _) (fun K R hK hR => ?_)
      simp only [↓rx_istore, ↓rx_nil, ↓ry_i1, y1, y2, rz_set, rz_nol, rz_clr, List.set_cons_zero, List.set_cons_succ, rz_tr, Nat.reduceAdd, Int.reduceAdd, Int.reduceToNat, Int.reduceSub, Int.reduceNeg, Int.cast_ofNat_Int]
      try simp (disch := omega) only [y1, y2, pk_us, pk_un, va_up_self, va_up_ne, nI_add, pk_mul, nI_clamp, vp_inT, nI_ltI, nI_leI, nI_eqI, pk_sub, true_and, and_true]
      refine hK _ _ _ _ ?_
      refine rz_blk' [(.iconst 0, 1, 0, 0), (.istore 5, 2, 0, 0)] (by decide +kernel) (Nat.le_refl _) (Nat.le_refl _) (fun K R hK hR => ?_)
      simp only [rw_c0, ↓rx_iconst, ↓rx_istore, ↓rx_nil, ↓ry_i1, y1, y2, rz_set, rz_nol, rz_clr, List.set_cons_zero, List.set_cons_succ, rz_tr, Nat.reduceAdd, Int.reduceAdd, Int.reduceToNat, Int.reduceSub, Int.reduceNeg, Int.cast_ofNat_Int]
      try simp (disch := omega) only [y1, y2, pk_us, pk_un, va_up_self, va_up_ne, nI_add, pk_mul, nI_clamp, vp_inT, nI_ltI, nI_leI, nI_eqI, pk_sub, true_and, and_true]
      refine hK _ _ _ _ ?_
      first
        | exact l1 x.2.2.1.length 0 true (Nat.zero_add _) ⟨fun _ => ⟨⟨by omega, by omega, by omega, by omega⟩, fun k hk => absurd hk (Nat.not_lt_zero _)⟩, fun _ => rfl⟩
        | exact l1 x.2.2.1.length 0 false (Nat.zero_add _) ⟨fun q => (by cases q), fun ⟨⟨c1, c2, c3, c4⟩, _⟩ => absurd q14 (by simp only [Classical.not_not]; omega)⟩
set_option maxRecDepth 100000 in
set_option maxHeartbeats 4000000 in
theorem c_Mod_addPair {w : rz_w} {d : Nat} {G : rz_G} {a : Nat} {I : Nat → Int32} {A : Nat → Nat → Int32} {u v : List Nat} {p q most : Nat} {P : List pd_T} (h12 : re_12 I A u v) (hP : pd_is I A P) (hm : I 64 = nI most) (hm2 : most ≤ 108) (hp : p < 6) (hq : q < 6) (hu8 : ∀ t ∈ u, t < 8) (hv8 : ∀ t ∈ v, t < 8) : rz_C w (d + 1) 0 0 y_Mod_addPair m_Mod_addPair [.ref a, .int (nI p), .int (nI q)] (re_put G a I A) (fun (r : Option Value) (G' : rz_G) => r = some (.int (nI (pd_far most (pd_cut p q u v)))) ∧ ∃ I' A', G' = re_put G a I' A' ∧ fi [58] I I' ∧ fa [59, 60, 61, 62, 63] A A' ∧ pd_is I' A' (pd_add most P (pd_cut p q u v))) := by
  generalize hQ : (fun (r : Option Value) (G' : rz_G) => r = some (.int (nI (pd_far most (pd_cut p q u v)))) ∧ ∃ I' A', G' = re_put G a I' A' ∧ fi [58] I I' ∧ fa [59, 60, 61, 62, 63] A A' ∧ pd_is I' A' (pd_add most P (pd_cut p q u v))) = Q
  obtain ⟨l1, l2, l3, l4, l5, l6, l7, l8⟩ := id h12
  obtain ⟨b1, b2, b3, b4⟩ := id hP
  have hle := lcpn_le u v
  have hal := c_Mod_alike (w := w) (d := d) (G := G) (a := a) h12
  generalize hx : (pd_cut p q u v) = x at *
  have x1 : x.1 = p := by rw [← hx]; rfl
  have x2 : x.2.1 = q := by rw [← hx]; rfl
  have x3 : x.2.2.1 = u.drop (lcpn u v) := by rw [← hx]; rfl
  have x4 : x.2.2.2 = v.drop (lcpn u v) := by rw [← hx]; rfl
  have x5 : x.2.2.1.length = u.length - lcpn u v := by rw [x3, List.length_drop]
  have x6 : x.2.2.2.length = v.length - lcpn u v := by rw [x4, List.length_drop]
  have x7 : ∀ k (h : k < x.2.2.1.length), A 28 (lcpn u v + k) = nI x.2.2.1[k] := fun k h => by
    have := l3 (lcpn u v + k) (by omega)
    rw [Nat.zero_add] at this
    rw [this]
    simp only [x3, List.getElem_drop]
  have x8 : ∀ k (h : k < x.2.2.2.length), A 29 (lcpn u v + k) = nI x.2.2.2[k] := fun k h => by
    have := l4 (lcpn u v + k) (by omega)
    rw [Nat.zero_add] at this
    rw [this]
    simp only [x4, List.getElem_drop]
  have x9 : ∀ t ∈ x.2.2.1, t < 8 := fun t ht => hu8 t (by rw [x3] at ht; exact List.mem_of_mem_drop ht)
  have x10 : ∀ t ∈ x.2.2.2, t < 8 := fun t ht => hv8 t (by rw [x4] at ht; exact List.mem_of_mem_drop ht)
  have hsame : (most < x.2.2.1.length ∨ most < x.2.2.2.length) → Q (some (.int (nI 1))) (re_put G a I A) := by
    intro h
    rw [← hQ]
    exact ⟨by unfold pd_far; rw [if_pos h], _, _, rfl, fi.rf, fa.rf, by unfold pd_add; rw [if_pos h]; exact hP⟩
  have hfull : ¬ (most < x.2.2.1.length ∨ most < x.2.2.2.length) → 3000 < P.length → Q (some (.int (nI 0))) (re_put G a I A) := by
    intro h h3
    rw [← hQ]
    exact ⟨by unfold pd_far; rw [if_neg h], _, _, rfl, fi.rf, fa.rf, by unfold pd_add; rw [if_neg h, if_pos (Or.inl h3)]; exact hP⟩
  have hgo : ¬ (most < x.2.2.1.length ∨ most < x.2.2.2.length) → P.length ≤ 3000 → rz_T w (d + 1) 0 0 m_Mod_addPair 0 0 74 [some (.ref a), some (.int (nI p)), some (.int (nI q)), some (.int (nI (lcpn u v))), some (.int (nI x.2.2.1.length)), some (.int (nI x.2.2.2.length)), some (.int (nI (240 * P.length))), some (.int (nI (7 * p + q))), some (.int (nI 0)), none] [] (re_put G a I A) Q := by
    intro hnf h3000
    have xok : pd_ok x := ⟨by omega, by omega, by omega, by omega, x9, x10⟩
    generalize hB1 : va_up A 61 (cp (A 61) (240 * P.length) (wsg x.2.2.1) 0 x.2.2.1.length) = B1
    generalize hB2 : va_up B1 61 (cp (B1 61) (240 * P.length + 120) (wsg x.2.2.2) 0 x.2.2.2.length) = B2
    have hB161 : B1 61 = cp (A 61) (240 * P.length) (wsg x.2.2.1) 0 x.2.2.1.length := by rw [← hB1, va_up_self]
    have hB261 : B2 61 = cp (B1 61) (240 * P.length + 120) (wsg x.2.2.2) 0 x.2.2.2.length := by rw [← hB2, va_up_self]
    have hBo : ∀ f, f ≠ 61 → B2 f = A f := fun f hf => by rw [← hB2, va_up_ne _ _ hf, ← hB1, va_up_ne _ _ hf]
    have hB1o : ∀ f, f ≠ 61 → B1 f = A f := fun f hf => by rw [← hB1, va_up_ne _ _ hf]
    have hfaB : fa [59, 60, 61, 62, 63] A B2 := fun f hf => hBo f (by intro e; subst e; revert hf; decide)
    have hs1 : sg (B2 61) (240 * P.length) x.2.2.1 := by
      rw [hB261, hB161]
      exact (sg_cp sg_wsg (Nat.le_refl _)).k (fun z h1 h2 => cp_out (by omega))
    have hs2 : sg (B2 61) (240 * P.length + 120) x.2.2.2 := by
      rw [hB261]; exact sg_cp sg_wsg (Nat.le_refl _)
    have hBn : ∀ (i : Nat) (y : pd_T), P[i]? = some y → pd_at B2 i y ∧ pd_ok y ∧ B2 62 i = plt P (psl y) i := fun i y hy => by
      obtain ⟨⟨c1, c2, c3, c4⟩, c5, c6⟩ := b3 i y hy
      have hil := (List.getElem?_eq_some_iff.mp hy).1
      have d1 := c5.2.2.1
      have d2 := c5.2.2.2.1
      refine ⟨⟨by rw [hBo 59 (by decide)]; exact c1, by rw [hBo 60 (by decide)]; exact c2, ?_, ?_⟩, c5, by rw [hBo 62 (by decide)]; exact c6⟩
      · rw [hB261, hB161]; exact c3.k (fun z h1 h2 => by rw [cp_out (by omega), cp_out (by omega)])
      · rw [hB261, hB161]; exact c4.k (fun z h1 h2 => by rw [cp_out (by omega), cp_out (by omega)])
    have e58 : I 58 = nI P.length := b1
    have e63 := hBo 63 (by decide)
    have hsl := psl_lt x
    have hhd := b4 (psl x) hsl
    have hknown : x ∈ P → Q (some (.int (nI 0))) (re_put G a I B2) := by
      intro hin
      rw [← hQ]
      exact ⟨by unfold pd_far; rw [if_neg hnf], _, _, rfl, fi.rf, hfaB, by unfold pd_add; rw [if_neg hnf, if_pos (Or.inr hin)]; exact ⟨b1, b2, hBn, fun s hs => by rw [e63]; exact b4 s hs⟩⟩
    -- store
    have hst : ∀ (z9 : Int32) (z7 : Int32), x ∉ P → rz_T w (d + 1) 0 0 m_Mod_addPair 0 0 246 [some (.ref a), some (.int (nI p)), some (.int (nI q)), some (.int (nI (lcpn u v))), some (.int (nI x.2.2.1.length)), some (.int (nI x.2.2.2.length)), some (.int (nI (240 * P.length))), some (.int z7), some (.int (nI (psl x))), some (.int z9)] [] (re_put G a I B2) Q := by
      intro z9 z7 hnin
      have x1' : 6 * p + q = 6 * x.1 + x.2.1 := by omega
      refine rz_blk' [(.aload_n 0, 1, 0, 0), (.getfield 150, 3, 10, 59), (.aload_n 0, 1, 0, 0), (.getfield 348, 3, 10, 58), (.bipush 6, 2, 0, 0), (.iload_n 1, 1, 0, 0), (.imul, 1, 0, 0), (.iload_n 2, 1, 0, 0), (.iadd, 1, 0, 0), (.iastore, 1, 0, 0)] (by decide +kernel) (Nat.le_refl _) (Nat.le_refl _) (fun K R hK hR => ?_)
      simp only [rw_b6, ↓rx_aload_n0, ↓rx_bipush, ↓rx_getfield, ↓rx_iadd, ↓rx_iastore, ↓rx_iload_n1, ↓rx_iload_n2, ↓rx_imul, ↓rx_nil, ↓ry_i2, ↓ry_iau, ↓ry_li0s, ↓ry_li0z, ↓ry_lr0s, ↓ry_lr0z, ↓ry_obu, ↓ry_r1, ↓ry_rii, true_and, re_a59, ↓re_F58, ↓re_F59, ↓re_i59, ↓re_ob, e58, e63, hhd, rz_set, rz_nol, rz_clr, List.set_cons_zero, List.set_cons_succ, rz_tr, Nat.reduceAdd, Int.reduceAdd, Int.reduceToNat, Int.reduceSub, Int.reduceNeg, Int.cast_ofNat_Int]
      try simp (disch := omega) only [e58, e63, hhd, pk_us, pk_un, va_up_self, va_up_ne, nI_add, pk_mul, nI_clamp, vp_inT, nI_ltI, nI_leI, nI_eqI, pk_sub, true_and, and_true]
      refine hK _ _ _ _ ?_
      refine rz_blk' [(.aload_n 0, 1, 0, 0), (.getfield 153, 3, 10, 60), (.aload_n 0, 1, 0, 0), (.getfield 348, 3, 10, 58), (.sipush 256, 3, 0, 0), (.iload 4, 2, 0, 0), (.imul, 1, 0, 0), (.iload 5, 2, 0, 0), (.iadd, 1, 0, 0), (.iastore, 1, 0, 0)] (by decide +kernel) (Nat.le_refl _) (Nat.le_refl _) (fun K R hK hR => ?_)
      simp only [rw_s256, ↓rx_aload_n0, ↓rx_getfield, ↓rx_iadd, ↓rx_iastore, ↓rx_iload, ↓rx_imul, ↓rx_nil, ↓rx_sipush, ↓ry_i2, ↓ry_iau, ↓ry_li0s, ↓ry_li0z, ↓ry_lr0s, ↓ry_lr0z, ↓ry_obu, ↓ry_r1, ↓ry_rii, true_and, re_a60, ↓re_F58, ↓re_F60, ↓re_i60, ↓re_ob, e58, e63, hhd, rz_set, rz_nol, rz_clr, List.set_cons_zero, List.set_cons_succ, rz_tr, Nat.reduceAdd, Int.reduceAdd, Int.reduceToNat, Int.reduceSub, Int.reduceNeg, Int.cast_ofNat_Int]
      try simp (disch := omega) only [e58, e63, hhd, pk_us, pk_un, va_up_self, va_up_ne, nI_add, pk_mul, nI_clamp, vp_inT, nI_ltI, nI_leI, nI_eqI, pk_sub, true_and, and_true]
      refine hK _ _ _ _ ?_
      refine rz_blk' [(.aload_n 0, 1, 0, 0), (.getfield 160, 3, 10, 62), (.aload_n 0, 1, 0, 0), (.getfield 348, 3, 10, 58), (.aload_n 0, 1, 0, 0), (.getfield 163, 3, 10, 63), (.iload 8, 2, 0, 0), (.iaload, 1, 0, 0), (.iastore, 1, 0, 0)] (by decide +kernel) (Nat.le_refl _) (Nat.le_refl _) (fun K R hK hR => ?_)
      simp only [↓rx_aload_n0, ↓rx_getfield, ↓rx_iaload, ↓rx_iastore, ↓rx_iload, ↓rx_nil, ↓ry_iau, ↓ry_li0s, ↓ry_li0z, ↓ry_lr0s, ↓ry_lr0z, ↓ry_obu, ↓ry_r1, ↓ry_ri, ↓ry_rii, true_and, re_a62, re_a63, ↓re_F58, ↓re_F62, ↓re_F63, ↓re_i62, ↓re_i63, ↓re_ob, e58, e63, hhd, rz_set, rz_nol, rz_clr, List.set_cons_zero, List.set_cons_succ, rz_tr, Nat.reduceAdd, Int.reduceAdd, Int.reduceToNat, Int.reduceSub, Int.reduceNeg, Int.cast_ofNat_Int]
      try simp (disch := omega) only [e58, e63, hhd, pk_us, pk_un, va_up_self, va_up_ne, nI_add, pk_mul, nI_clamp, vp_inT, nI_ltI, nI_leI, nI_eqI, pk_sub, true_and, and_true]
      refine hK _ _ _ _ ?_
      refine rz_blk' [(.aload_n 0, 1, 0, 0), (.getfield 163, 3, 10, 63), (.iload 8, 2, 0, 0), (.aload_n 0, 1, 0, 0), (.getfield 348, 3, 10, 58), (.iastore, 1, 0, 0)] (by decide +kernel) (Nat.le_refl _) (Nat.le_refl _) (fun K R hK hR => ?_)
      simp only [↓rx_aload_n0, ↓rx_getfield, ↓rx_iastore, ↓rx_iload, ↓rx_nil, ↓ry_iau, ↓ry_li0s, ↓ry_li0z, ↓ry_lr0s, ↓ry_lr0z, ↓ry_obu, ↓ry_r1, ↓ry_rii, true_and, re_a63, ↓re_F58, ↓re_F63, ↓re_i63, ↓re_ob, e58, e63, hhd, rz_set, rz_nol, rz_clr, List.set_cons_zero, List.set_cons_succ, rz_tr, Nat.reduceAdd, Int.reduceAdd, Int.reduceToNat, Int.reduceSub, Int.reduceNeg, Int.cast_ofNat_Int]
      try simp (disch := omega) only [e58, e63, hhd, pk_us, pk_un, va_up_self, va_up_ne, nI_add, pk_mul, nI_clamp, vp_inT, nI_ltI, nI_leI, nI_eqI, pk_sub, true_and, and_true]
      refine hK _ _ _ _ ?_
      refine rz_blk' [(.aload_n 0, 1, 0, 0), (.dup, 1, 0, 0), (.getfield 348, 3, 10, 58), (.iconst 1, 1, 0, 0), (.iadd, 1, 0, 0), (.putfield 348, 3, 10, 58)] (by decide +kernel) (Nat.le_refl _) (Nat.le_refl _) (fun K R hK hR => ?_)
      simp only [List.length_cons, List.length_nil, Nat.reduceLT, rf_10_58, rw_c1, ↓rx_aload_n0, ↓rx_dup, ↓rx_getfield, ↓rx_iadd, ↓rx_iconst, ↓rx_nil, ↓rx_putfield, ↓ry_i2, ↓ry_lr0s, ↓ry_lr0z, ↓ry_obu, ↓ry_r1, ↓ry_v1i, ↓ry_v1r, ↓ry_vr, true_and, re_len, re_u58, ↓re_F58, ↓re_ob, e58, e63, hhd, rz_set, rz_nol, rz_clr, List.set_cons_zero, List.set_cons_succ, rz_tr, Nat.reduceAdd, Int.reduceAdd, Int.reduceToNat, Int.reduceSub, Int.reduceNeg, Int.cast_ofNat_Int]
      try simp (disch := omega) only [e58, e63, hhd, pk_us, pk_un, va_up_self, va_up_ne, nI_add, pk_mul, nI_clamp, vp_inT, nI_ltI, nI_leI, nI_eqI, pk_sub, true_and, and_true]
      refine hK _ _ _ _ ?_
      refine rz_blk' [(.iconst 0, 1, 0, 0), (.ireturn, 1, 0, 0)] (by decide +kernel) (Nat.le_refl _) (Nat.le_refl _) (fun K R hK hR => ?_)
      simp only [rw_c0, ↓rx_iconst, ↓rx_ireturn, ↓rx_nil, e58, e63, hhd, rz_set, rz_nol, rz_clr, List.set_cons_zero, List.set_cons_succ, rz_tr, Nat.reduceAdd, Int.reduceAdd, Int.reduceToNat, Int.reduceSub, Int.reduceNeg, Int.cast_ofNat_Int]
      try simp (disch := omega) only [e58, e63, hhd, pk_us, pk_un, va_up_self, va_up_ne, nI_add, pk_mul, nI_clamp, vp_inT, nI_ltI, nI_leI, nI_eqI, pk_sub, true_and, and_true]
      refine hR _ _ (rz_nb_i (by decide)) ?_
      rw [← hQ]
      refine ⟨by unfold pd_far; rw [if_neg hnf], _, _, rfl, fi.rf.u rfl, (((hfaB.u rfl).u rfl).u rfl).u rfl, ?_⟩
      unfold pd_add
      rw [if_neg hnf, if_neg (by rintro (h | h); omega; exact hnin h)]
      generalize hC : va_up (va_up (va_up (va_up B2 59 _) 60 _) 62 _) 63 _ = C
      have h59 : C 59 = upd (B2 59) P.length (nI (6 * p + q)) := by rw [← hC]; simp [va_up]
      have h60 : C 60 = upd (B2 60) P.length (nI (256 * x.2.2.1.length + x.2.2.2.length)) := by rw [← hC]; simp [va_up]
      have h61 : C 61 = B2 61 := by rw [← hC]; simp [va_up]
      have h62 : C 62 = upd (B2 62) P.length (plt P (psl x) P.length) := by rw [← hC]; simp [va_up]
      have h63 : C 63 = upd (A 63) (psl x) (nI P.length) := by rw [← hC]; simp [va_up, e63]
      refine ⟨by rw [pk_us]; simp, by simp; omega, fun i y hy => ?_, fun s hs => ?_⟩
      · have hil := (List.getElem?_eq_some_iff.mp hy).1
        simp only [List.length_append, List.length_cons, List.length_nil, Nat.zero_add] at hil
        unfold pd_at
        rw [h59, h60, h61, h62, plt_app _ (by omega)]
        by_cases ci : i < P.length
        · rw [List.getElem?_append_left ci] at hy
          obtain ⟨⟨c1, c2, c3, c4⟩, c5, c6⟩ := hBn i y hy
          rw [pk_un (by omega), pk_un (by omega), pk_un (by omega)]
          exact ⟨⟨c1, c2, c3, c4⟩, c5, c6⟩
        · have e : i = P.length := by omega
          subst e
          rw [List.getElem?_append_right (Nat.le_refl _)] at hy
          simp at hy
          subst hy
          rw [pk_us, pk_us, pk_us, x1']
          exact ⟨⟨rfl, rfl, hs1, hs2⟩, xok, rfl⟩
      · rw [h63]
        have e1 : plt (P ++ [x]) s (P ++ [x]).length = if psl x = s then nI P.length else plt P s P.length := by
          rw [List.length_append]
          show plt (P ++ [x]) s (P.length + 1) = _
          simp only [plt]
          rw [List.getElem?_append_right (Nat.le_refl _), plt_app _ (Nat.le_refl _)]
          simp
        rw [e1]
        by_cases cs : psl x = s
        · rw [if_pos cs, ← cs, pk_us]
        · rw [if_neg cs, pk_un (Ne.symm cs)]; exact b4 s hs
    have chn : ∀ (k : Nat) (z7 : Int32), k ≤ P.length → (∀ (j : Nat) (y : pd_T), k ≤ j → P[j]? = some y → y ≠ x) → rz_T w (d + 1) 0 0 m_Mod_addPair 0 0 203 [some (.ref a), some (.int (nI p)), some (.int (nI q)), some (.int (nI (lcpn u v))), some (.int (nI x.2.2.1.length)), some (.int (nI x.2.2.2.length)), some (.int (nI (240 * P.length))), some (.int z7), some (.int (nI (psl x))), some (.int (plt P (psl x) k))] [] (re_put G a I B2) Q := by
      intro k
      induction k with
      | zero =>
        intro z7 hk hno
        have e : plt P (psl x) 0 = -1 := rfl
        rw [e]
        refine rz_blk' [(.iload 9, 2, 0, 0), (.ifCond .lt 41, 3, 0, 0)] (by decide +kernel) (Nat.le_refl _) (Nat.le_refl _) (fun K R hK hR => ?_)
        simp only [↓rx_ifCond_lt, ↓rx_iload, ↓rx_nil, ↓ry_i1, ↓ry_li0s, ↓ry_li0z, rz_set, rz_nol, rz_clr, List.set_cons_zero, List.set_cons_succ, rz_tr, Nat.reduceAdd, Int.reduceAdd, Int.reduceToNat, Int.reduceSub, Int.reduceNeg, Int.cast_ofNat_Int]
        try simp (disch := omega) only [pk_us, pk_un, va_up_self, va_up_ne, nI_add, pk_mul, nI_clamp, vp_inT, nI_ltI, nI_leI, nI_eqI, pk_sub, true_and, and_true]
        refine ⟨fun q1 => hK _ _ _ _ ?_, fun q1 => absurd (show (-1 : Int32) < 0 by decide) q1⟩
        refine hst _ _ (fun hin => ?_)
        obtain ⟨j, hj⟩ := List.mem_iff_getElem?.mp hin
        exact hno j x (Nat.zero_le _) hj rfl
      | succ k ih =>
        intro z7 hk hno
        have hkl : k < P.length := by omega
        obtain ⟨y, hy⟩ : ∃ y, P[k]? = some y := ⟨_, List.getElem?_eq_getElem hkl⟩
        by_cases cs : psl y = psl x
        · have e : plt P (psl x) (k + 1) = nI k := by simp only [plt, hy, Option.map_some, cs, if_true]
          rw [e]
          obtain ⟨c1, c2, c3⟩ := hBn k y hy
          rw [cs] at c3
          have hcl := c_Mod_isPair (w := w) (d := d) (G := G) (a := a) (I := I) (A := B2) e58 h3000 (by omega) c1 c2 xok hs1 hs2
          have x1' : 6 * x.1 + x.2.1 = 6 * p + q := by omega
          rw [x1'] at hcl
          refine rz_blk' [(.iload 9, 2, 0, 0), (.ifCond .lt 41, 3, 0, 0)] (by decide +kernel) (Nat.le_refl _) (Nat.le_refl _) (fun K R hK hR => ?_)
          simp only [↓rx_ifCond_lt, ↓rx_iload, ↓rx_nil, ↓ry_i1, ↓ry_li0s, ↓ry_li0z, c3, rz_set, rz_nol, rz_clr, List.set_cons_zero, List.set_cons_succ, rz_tr, Nat.reduceAdd, Int.reduceAdd, Int.reduceToNat, Int.reduceSub, Int.reduceNeg, Int.cast_ofNat_Int]
          try simp (disch := omega) only [c3, rb_0, pk_us, pk_un, va_up_self, va_up_ne, nI_add, pk_mul, nI_clamp, vp_inT, nI_ltI, nI_leI, nI_eqI, pk_sub, true_and, and_true]
          refine ⟨fun q2 => absurd q2 (nI_pos (by omega)), fun q2 => hK _ _ _ _ ?_⟩
          refine rz_blk' [(.aload_n 0, 1, 0, 0), (.iload 9, 2, 0, 0), (.bipush 6, 2, 0, 0), (.iload_n 1, 1, 0, 0), (.imul, 1, 0, 0), (.iload_n 2, 1, 0, 0), (.iadd, 1, 0, 0), (.sipush 256, 3, 0, 0), (.iload 4, 2, 0, 0), (.imul, 1, 0, 0), (.iload 5, 2, 0, 0), (.iadd, 1, 0, 0)] (by decide +kernel) (Nat.le_refl _) (Nat.le_refl _) (fun K R hK hR => ?_)
          simp only [rw_b6, rw_s256, ↓rx_aload_n0, ↓rx_bipush, ↓rx_iadd, ↓rx_iload, ↓rx_iload_n1, ↓rx_iload_n2, ↓rx_imul, ↓rx_nil, ↓rx_sipush, ↓ry_i2, ↓ry_li0s, ↓ry_li0z, ↓ry_lr0s, ↓ry_lr0z, c3, rz_set, rz_nol, rz_clr, List.set_cons_zero, List.set_cons_succ, rz_tr, Nat.reduceAdd, Int.reduceAdd, Int.reduceToNat, Int.reduceSub, Int.reduceNeg, Int.cast_ofNat_Int]
          try simp (disch := omega) only [c3, rb_0, pk_us, pk_un, va_up_self, va_up_ne, nI_add, pk_mul, nI_clamp, vp_inT, nI_ltI, nI_leI, nI_eqI, pk_sub, true_and, and_true]
          refine hK _ _ _ _ ?_
          refine rz_cV (As := [.int (nI k), .int (nI (6 * p + q)), .int (nI (256 * x.2.2.1.length + x.2.2.2.length))]) (b := a) (S := []) l_Mod_351 (by decide +kernel) rfl re_at0 rfl (Nat.le_of_ble_eq_true rfl) (Nat.le_refl _) (Nat.le_refl _) (hcl) (fun r G' hr => ?_)
          obtain ⟨rfl, rfl⟩ := hr
          simp only [Option.toList, List.cons_append, List.nil_append]
          refine rz_blk' [(.ifCond .eq 5, 3, 0, 0)] (by decide +kernel) (Nat.le_refl _) (Nat.le_refl _) (fun K R hK hR => ?_)
          simp only [↓rx_ifCond_eq, ↓rx_nil, ↓ry_i1, c3, rz_set, rz_nol, rz_clr, List.set_cons_zero, List.set_cons_succ, rz_tr, Nat.reduceAdd, Int.reduceAdd, Int.reduceToNat, Int.reduceSub, Int.reduceNeg, Int.cast_ofNat_Int]
          try simp (disch := omega) only [c3, rb_0, pk_us, pk_un, va_up_self, va_up_ne, nI_add, pk_mul, nI_clamp, vp_inT, nI_ltI, nI_leI, nI_eqI, pk_sub, true_and, and_true]
          refine ⟨fun q3 => hK _ _ _ _ ?_, fun q3 => hK _ _ _ _ ?_⟩
          · -- 229 taken
            refine rz_blk' [(.aload_n 0, 1, 0, 0), (.getfield 160, 3, 10, 62), (.iload 9, 2, 0, 0), (.iaload, 1, 0, 0), (.istore 9, 2, 0, 0)] (by decide +kernel) (Nat.le_refl _) (Nat.le_refl _) (fun K R hK hR => ?_)
            simp only [↓rx_aload_n0, ↓rx_getfield, ↓rx_iaload, ↓rx_iload, ↓rx_istore, ↓rx_nil, ↓ry_i1, ↓ry_iau, ↓ry_li0s, ↓ry_li0z, ↓ry_lr0s, ↓ry_lr0z, ↓ry_obu, ↓ry_r1, ↓ry_ri, true_and, re_a62, ↓re_F62, ↓re_i62, ↓re_ob, c3, rz_set, rz_nol, rz_clr, List.set_cons_zero, List.set_cons_succ, rz_tr, Nat.reduceAdd, Int.reduceAdd, Int.reduceToNat, Int.reduceSub, Int.reduceNeg, Int.cast_ofNat_Int]
            try simp (disch := omega) only [c3, rb_0, pk_us, pk_un, va_up_self, va_up_ne, nI_add, pk_mul, nI_clamp, vp_inT, nI_ltI, nI_leI, nI_eqI, pk_sub, true_and, and_true]
            refine hK _ _ _ _ ?_
            refine rz_blk' [(.goto (-40), 3, 0, 0)] (by decide +kernel) (Nat.le_refl _) (Nat.le_refl _) (fun K R hK hR => ?_)
            simp only [↓rx_goto, ↓rx_nil, c3, rz_set, rz_nol, rz_clr, List.set_cons_zero, List.set_cons_succ, rz_tr, Nat.reduceAdd, Int.reduceAdd, Int.reduceToNat, Int.reduceSub, Int.reduceNeg, Int.cast_ofNat_Int]
            try simp (disch := omega) only [c3, rb_0, pk_us, pk_un, va_up_self, va_up_ne, nI_add, pk_mul, nI_clamp, vp_inT, nI_ltI, nI_leI, nI_eqI, pk_sub, true_and, and_true]
            refine hK _ _ _ _ ?_
            refine ih _ (by omega) (fun j t hj ht => ?_)
            by_cases cj : j = k
            · subst cj
              rw [hy] at ht
              cases ht
              exact of_decide_eq_false q3
            · exact hno j t (by omega) ht
          · -- 229 not taken
            refine rz_blk' [(.iconst 0, 1, 0, 0), (.ireturn, 1, 0, 0)] (by decide +kernel) (Nat.le_refl _) (Nat.le_refl _) (fun K R hK hR => ?_)
            simp only [rw_c0, ↓rx_iconst, ↓rx_ireturn, ↓rx_nil, c3, rz_set, rz_nol, rz_clr, List.set_cons_zero, List.set_cons_succ, rz_tr, Nat.reduceAdd, Int.reduceAdd, Int.reduceToNat, Int.reduceSub, Int.reduceNeg, Int.cast_ofNat_Int]
            try simp (disch := omega) only [c3, rb_0, pk_us, pk_un, va_up_self, va_up_ne, nI_add, pk_mul, nI_clamp, vp_inT, nI_ltI, nI_leI, nI_eqI, pk_sub, true_and, and_true]
            have e2 : y = x := by simpa using q3
            exact hR _ _ (rz_nb_i (by decide)) (hknown (by rw [← e2]; exact List.mem_of_getElem? hy))
        · have e : plt P (psl x) (k + 1) = plt P (psl x) k := by simp only [plt, hy, Option.map_some]; rw [if_neg (fun q => cs (Option.some.inj q))]
          rw [e]
          refine ih _ (by omega) (fun j t hj ht => ?_)
          by_cases cj : j = k
          · subst cj
            rw [hy] at ht
            cases ht
            intro q; rw [q] at cs; exact cs rfl
          · exact hno j t (by omega) ht
    have hph : ph x = ph2 x.2.2.2 (ph1 x.2.2.1 (nI (7 * p + q))) := by unfold ph; rw [x1, x2]
    have hsli : (ph x ^^^ ((ph x).toUInt32 >>> ((nI 13).toUInt32 &&& Int32.toUInt32 31)).toInt32) &&& nI 4095 = nI (psl x) := psl_is x
    have s2 : ∀ (j i : Nat) (z7 : Int32), i + j = x.2.2.2.length → z7 = ph2 (x.2.2.2.take i) (ph1 x.2.2.1 (nI (7 * p + q))) → rz_T w (d + 1) 0 0 m_Mod_addPair 0 0 126 [some (.ref a), some (.int (nI p)), some (.int (nI q)), some (.int (nI (lcpn u v))), some (.int (nI x.2.2.1.length)), some (.int (nI x.2.2.2.length)), some (.int (nI (240 * P.length))), some (.int z7), some (.int (nI i)), none] [] (re_put G a I (va_up B1 61 (cp (B1 61) (240 * P.length + 120) (wsg x.2.2.2) 0 i))) Q := by
      intro j
      induction j with
      | zero =>
        intro i z7 hij hz
        have hi : i = x.2.2.2.length := by omega
        subst hi
        rw [List.take_length, ← hph] at hz
        subst hz
        rw [hB2]
        refine rz_blk' [(.iload 8, 2, 0, 0), (.iload 5, 2, 0, 0), (.if_icmp .ge 50, 3, 0, 0)] (by decide +kernel) (Nat.le_refl _) (Nat.le_refl _) (fun K R hK hR => ?_)
        simp only [↓rx_if_icmp_ge, ↓rx_iload, ↓rx_nil, ↓ry_i2, ↓ry_li0s, ↓ry_li0z, e63, hhd, rz_set, rz_nol, rz_clr, List.set_cons_zero, List.set_cons_succ, rz_tr, Nat.reduceAdd, Int.reduceAdd, Int.reduceToNat, Int.reduceSub, Int.reduceNeg, Int.cast_ofNat_Int]
        try simp (disch := omega) only [e63, hhd, hsli, pk_us, pk_un, va_up_self, va_up_ne, nI_add, pk_mul, nI_clamp, vp_inT, nI_ltI, nI_leI, nI_eqI, pk_sub, true_and, and_true]
        refine ⟨fun q4 => hK _ _ _ _ ?_, fun q4 => by omega⟩
        refine rz_blk' [(.iload 7, 2, 0, 0), (.iload 7, 2, 0, 0), (.bipush 13, 2, 0, 0), (.iushr, 1, 0, 0), (.ixor, 1, 0, 0), (.sipush 4095, 3, 0, 0), (.iand, 1, 0, 0), (.istore 8, 2, 0, 0)] (by decide +kernel) (Nat.le_refl _) (Nat.le_refl _) (fun K R hK hR => ?_)
        simp only [rw_b13, rw_s4095, ↓rx_bipush, ↓rx_iand, ↓rx_iload, ↓rx_istore, ↓rx_iushr, ↓rx_ixor, ↓rx_nil, ↓rx_sipush, ↓ry_i1, ↓ry_i2, ↓ry_li0s, ↓ry_li0z, e63, hhd, rz_set, rz_nol, rz_clr, List.set_cons_zero, List.set_cons_succ, rz_tr, Nat.reduceAdd, Int.reduceAdd, Int.reduceToNat, Int.reduceSub, Int.reduceNeg, Int.cast_ofNat_Int]
        try simp (disch := omega) only [e63, hhd, hsli, pk_us, pk_un, va_up_self, va_up_ne, nI_add, pk_mul, nI_clamp, vp_inT, nI_ltI, nI_leI, nI_eqI, pk_sub, true_and, and_true]
        refine hK _ _ _ _ ?_
        refine rz_blk' [(.aload_n 0, 1, 0, 0), (.getfield 163, 3, 10, 63), (.iload 8, 2, 0, 0), (.iaload, 1, 0, 0), (.istore 9, 2, 0, 0)] (by decide +kernel) (Nat.le_refl _) (Nat.le_refl _) (fun K R hK hR => ?_)
        simp only [↓rx_aload_n0, ↓rx_getfield, ↓rx_iaload, ↓rx_iload, ↓rx_istore, ↓rx_nil, ↓ry_i1, ↓ry_iau, ↓ry_li0s, ↓ry_li0z, ↓ry_lr0s, ↓ry_lr0z, ↓ry_obu, ↓ry_r1, ↓ry_ri, true_and, re_a63, ↓re_F63, ↓re_i63, ↓re_ob, e63, hhd, rz_set, rz_nol, rz_clr, List.set_cons_zero, List.set_cons_succ, rz_tr, Nat.reduceAdd, Int.reduceAdd, Int.reduceToNat, Int.reduceSub, Int.reduceNeg, Int.cast_ofNat_Int]
        try simp (disch := omega) only [e63, hhd, hsli, pk_us, pk_un, va_up_self, va_up_ne, nI_add, pk_mul, nI_clamp, vp_inT, nI_ltI, nI_leI, nI_eqI, pk_sub, true_and, and_true]
        refine hK _ _ _ _ ?_
        exact chn P.length _ (Nat.le_refl _) (fun j y h1 h2 => by have := (List.getElem?_eq_some_iff.mp h2).1; omega)
      | succ j ih =>
        intro i z7 hij hz
        have hiF : i < x.2.2.2.length := by omega
        have ih := ih (i + 1) (nI 37 * z7 + nI x.2.2.2[i] + nI 1) (by omega) (by rw [ph2, foldl_take _ _ _ hiF, hz]; rfl)
        rw [← cp_s, Nat.zero_add, wsg_at hiF] at ih
        have e1 := x8 i hiF
        have e29 := hB1o 29 (by decide)
        refine rz_blk' [(.iload 8, 2, 0, 0), (.iload 5, 2, 0, 0), (.if_icmp .ge 50, 3, 0, 0)] (by decide +kernel) (Nat.le_refl _) (Nat.le_refl _) (fun K R hK hR => ?_)
        simp only [↓rx_if_icmp_ge, ↓rx_iload, ↓rx_nil, ↓ry_i2, ↓ry_li0s, ↓ry_li0z, e29, e1, re_a61, ↓re_i61, rz_set, rz_nol, rz_clr, List.set_cons_zero, List.set_cons_succ, rz_tr, Nat.reduceAdd, Int.reduceAdd, Int.reduceToNat, Int.reduceSub, Int.reduceNeg, Int.cast_ofNat_Int]
        try simp (disch := omega) only [e29, e1, pk_us, pk_un, va_up_self, va_up_ne, nI_add, pk_mul, nI_clamp, vp_inT, nI_ltI, nI_leI, nI_eqI, pk_sub, true_and, and_true]
        refine ⟨fun q5 => by omega, fun q5 => hK _ _ _ _ ?_⟩
        refine rz_blk' [(.aload_n 0, 1, 0, 0), (.getfield 157, 3, 10, 61), (.iload 6, 2, 0, 0), (.bipush 120, 2, 0, 0), (.iadd, 1, 0, 0), (.iload 8, 2, 0, 0), (.iadd, 1, 0, 0), (.aload_n 0, 1, 0, 0), (.getfield 86, 3, 10, 29), (.iload_n 3, 1, 0, 0), (.iload 8, 2, 0, 0), (.iadd, 1, 0, 0), (.iaload, 1, 0, 0), (.iastore, 1, 0, 0)] (by decide +kernel) (Nat.le_refl _) (Nat.le_refl _) (fun K R hK hR => ?_)
        simp only [rw_b120, ↓rx_aload_n0, ↓rx_bipush, ↓rx_getfield, ↓rx_iadd, ↓rx_iaload, ↓rx_iastore, ↓rx_iload, ↓rx_iload_n3, ↓rx_nil, ↓ry_i2, ↓ry_iau, ↓ry_li0s, ↓ry_li0z, ↓ry_lr0s, ↓ry_lr0z, ↓ry_obu, ↓ry_r1, ↓ry_ri, ↓ry_rii, true_and, re_a29, re_a61, ↓re_F29, ↓re_F61, ↓re_i29, ↓re_i61, ↓re_ob, e29, e1, re_a61, ↓re_i61, rz_set, rz_nol, rz_clr, List.set_cons_zero, List.set_cons_succ, rz_tr, Nat.reduceAdd, Int.reduceAdd, Int.reduceToNat, Int.reduceSub, Int.reduceNeg, Int.cast_ofNat_Int]
        try simp (disch := omega) only [e29, e1, pk_us, pk_un, va_up_self, va_up_ne, nI_add, pk_mul, nI_clamp, vp_inT, nI_ltI, nI_leI, nI_eqI, pk_sub, true_and, and_true]
        refine hK _ _ _ _ ?_
        refine rz_blk' [(.bipush 37, 2, 0, 0), (.iload 7, 2, 0, 0), (.imul, 1, 0, 0), (.aload_n 0, 1, 0, 0), (.getfield 86, 3, 10, 29), (.iload_n 3, 1, 0, 0), (.iload 8, 2, 0, 0), (.iadd, 1, 0, 0), (.iaload, 1, 0, 0), (.iadd, 1, 0, 0), (.iconst 1, 1, 0, 0), (.iadd, 1, 0, 0), (.istore 7, 2, 0, 0)] (by decide +kernel) (Nat.le_refl _) (Nat.le_refl _) (fun K R hK hR => ?_)
        simp only [rw_b37, rw_c1, ↓rx_aload_n0, ↓rx_bipush, ↓rx_getfield, ↓rx_iadd, ↓rx_iaload, ↓rx_iconst, ↓rx_iload, ↓rx_iload_n3, ↓rx_imul, ↓rx_istore, ↓rx_nil, ↓ry_i1, ↓ry_i2, ↓ry_iau, ↓ry_li0s, ↓ry_li0z, ↓ry_lr0s, ↓ry_lr0z, ↓ry_obu, ↓ry_r1, ↓ry_ri, true_and, re_a29, ↓re_F29, ↓re_i29, ↓re_ob, e29, e1, re_a61, ↓re_i61, rz_set, rz_nol, rz_clr, List.set_cons_zero, List.set_cons_succ, rz_tr, Nat.reduceAdd, Int.reduceAdd, Int.reduceToNat, Int.reduceSub, Int.reduceNeg, Int.cast_ofNat_Int]
        try simp (disch := omega) only [e29, e1, pk_us, pk_un, va_up_self, va_up_ne, nI_add, pk_mul, nI_clamp, vp_inT, nI_ltI, nI_leI, nI_eqI, pk_sub, true_and, and_true]
        refine hK _ _ _ _ ?_
        refine rz_blk' [(.iinc 8 1, 3, 0, 0)] (by decide +kernel) (Nat.le_refl _) (Nat.le_refl _) (fun K R hK hR => ?_)
        simp only [rw_c1, ↓rx_iinc, ↓rx_nil, ↓ry_li0s, ↓ry_li0z, e29, e1, re_a61, ↓re_i61, rz_set, rz_nol, rz_clr, List.set_cons_zero, List.set_cons_succ, rz_tr, Nat.reduceAdd, Int.reduceAdd, Int.reduceToNat, Int.reduceSub, Int.reduceNeg, Int.cast_ofNat_Int]
        try simp (disch := omega) only [e29, e1, pk_us, pk_un, va_up_self, va_up_ne, nI_add, pk_mul, nI_clamp, vp_inT, nI_ltI, nI_leI, nI_eqI, pk_sub, true_and, and_true]
        refine hK _ _ _ _ ?_
        refine rz_blk' [(.goto (-51), 3, 0, 0)] (by decide +kernel) (Nat.le_refl _) (Nat.le_refl _) (fun K R hK hR => ?_)
        simp only [↓rx_goto, ↓rx_nil, e29, e1, re_a61, ↓re_i61, rz_set, rz_nol, rz_clr, List.set_cons_zero, List.set_cons_succ, rz_tr, Nat.reduceAdd, Int.reduceAdd, Int.reduceToNat, Int.reduceSub, Int.reduceNeg, Int.cast_ofNat_Int]
        try simp (disch := omega) only [e29, e1, pk_us, pk_un, va_up_self, va_up_ne, nI_add, pk_mul, nI_clamp, vp_inT, nI_ltI, nI_leI, nI_eqI, pk_sub, true_and, and_true]
        refine hK _ _ _ _ ?_
        rw [re_vv]
        exact ih
    have s1 : ∀ (j i : Nat) (z7 : Int32), i + j = x.2.2.1.length → z7 = ph1 (x.2.2.1.take i) (nI (7 * p + q)) → rz_T w (d + 1) 0 0 m_Mod_addPair 0 0 74 [some (.ref a), some (.int (nI p)), some (.int (nI q)), some (.int (nI (lcpn u v))), some (.int (nI x.2.2.1.length)), some (.int (nI x.2.2.2.length)), some (.int (nI (240 * P.length))), some (.int z7), some (.int (nI i)), none] [] (re_put G a I (va_up A 61 (cp (A 61) (240 * P.length) (wsg x.2.2.1) 0 i))) Q := by
      intro j
      induction j with
      | zero =>
        intro i z7 hij hz
        have hi : i = x.2.2.1.length := by omega
        subst hi
        rw [List.take_length] at hz
        rw [hB1]
        have hs2' := s2 x.2.2.2.length 0 z7 (Nat.zero_add _) (by rw [hz]; rfl)
        rw [cp_0, re_ve] at hs2'
        refine rz_blk' [(.iload 8, 2, 0, 0), (.iload 4, 2, 0, 0), (.if_icmp .ge 45, 3, 0, 0)] (by decide +kernel) (Nat.le_refl _) (Nat.le_refl _) (fun K R hK hR => ?_)
        simp only [↓rx_if_icmp_ge, ↓rx_iload, ↓rx_nil, ↓ry_i2, ↓ry_li0s, ↓ry_li0z, rz_set, rz_nol, rz_clr, List.set_cons_zero, List.set_cons_succ, rz_tr, Nat.reduceAdd, Int.reduceAdd, Int.reduceToNat, Int.reduceSub, Int.reduceNeg, Int.cast_ofNat_Int]
        try simp (disch := omega) only [pk_us, pk_un, va_up_self, va_up_ne, nI_add, pk_mul, nI_clamp, vp_inT, nI_ltI, nI_leI, nI_eqI, pk_sub, true_and, and_true]
        refine ⟨fun q6 => hK _ _ _ _ ?_, fun q6 => by omega⟩
        refine rz_blk' [(.iconst 0, 1, 0, 0), (.istore 8, 2, 0, 0)] (by decide +kernel) (Nat.le_refl _) (Nat.le_refl _) (fun K R hK hR => ?_)
        simp only [rw_c0, ↓rx_iconst, ↓rx_istore, ↓rx_nil, ↓ry_i1, rz_set, rz_nol, rz_clr, List.set_cons_zero, List.set_cons_succ, rz_tr, Nat.reduceAdd, Int.reduceAdd, Int.reduceToNat, Int.reduceSub, Int.reduceNeg, Int.cast_ofNat_Int]
        try simp (disch := omega) only [pk_us, pk_un, va_up_self, va_up_ne, nI_add, pk_mul, nI_clamp, vp_inT, nI_ltI, nI_leI, nI_eqI, pk_sub, true_and, and_true]
        refine hK _ _ _ _ ?_
        exact hs2'
      | succ j ih =>
        intro i z7 hij hz
        have hiF : i < x.2.2.1.length := by omega
        have ih := ih (i + 1) (nI 31 * z7 + nI x.2.2.1[i]) (by omega) (by rw [ph1, foldl_take _ _ _ hiF, hz]; rfl)
        rw [← cp_s, Nat.zero_add, wsg_at hiF] at ih
        have e1 := x7 i hiF
        refine rz_blk' [(.iload 8, 2, 0, 0), (.iload 4, 2, 0, 0), (.if_icmp .ge 45, 3, 0, 0)] (by decide +kernel) (Nat.le_refl _) (Nat.le_refl _) (fun K R hK hR => ?_)
        simp only [↓rx_if_icmp_ge, ↓rx_iload, ↓rx_nil, ↓ry_i2, ↓ry_li0s, ↓ry_li0z, e1, re_a61, ↓re_i61, rz_set, rz_nol, rz_clr, List.set_cons_zero, List.set_cons_succ, rz_tr, Nat.reduceAdd, Int.reduceAdd, Int.reduceToNat, Int.reduceSub, Int.reduceNeg, Int.cast_ofNat_Int]
        try simp (disch := omega) only [e1, pk_us, pk_un, va_up_self, va_up_ne, nI_add, pk_mul, nI_clamp, vp_inT, nI_ltI, nI_leI, nI_eqI, pk_sub, true_and, and_true]
        refine ⟨fun q7 => by omega, fun q7 => hK _ _ _ _ ?_⟩
        refine rz_blk' [(.aload_n 0, 1, 0, 0), (.getfield 157, 3, 10, 61), (.iload 6, 2, 0, 0), (.iload 8, 2, 0, 0), (.iadd, 1, 0, 0), (.aload_n 0, 1, 0, 0), (.getfield 83, 3, 10, 28), (.iload_n 3, 1, 0, 0), (.iload 8, 2, 0, 0), (.iadd, 1, 0, 0), (.iaload, 1, 0, 0), (.iastore, 1, 0, 0)] (by decide +kernel) (Nat.le_refl _) (Nat.le_refl _) (fun K R hK hR => ?_)
        simp only [↓rx_aload_n0, ↓rx_getfield, ↓rx_iadd, ↓rx_iaload, ↓rx_iastore, ↓rx_iload, ↓rx_iload_n3, ↓rx_nil, ↓ry_i2, ↓ry_iau, ↓ry_li0s, ↓ry_li0z, ↓ry_lr0s, ↓ry_lr0z, ↓ry_obu, ↓ry_r1, ↓ry_ri, ↓ry_rii, true_and, re_a28, re_a61, ↓re_F28, ↓re_F61, ↓re_i28, ↓re_i61, ↓re_ob, e1, re_a61, ↓re_i61, rz_set, rz_nol, rz_clr, List.set_cons_zero, List.set_cons_succ, rz_tr, Nat.reduceAdd, Int.reduceAdd, Int.reduceToNat, Int.reduceSub, Int.reduceNeg, Int.cast_ofNat_Int]
        try simp (disch := omega) only [e1, pk_us, pk_un, va_up_self, va_up_ne, nI_add, pk_mul, nI_clamp, vp_inT, nI_ltI, nI_leI, nI_eqI, pk_sub, true_and, and_true]
        refine hK _ _ _ _ ?_
        refine rz_blk' [(.bipush 31, 2, 0, 0), (.iload 7, 2, 0, 0), (.imul, 1, 0, 0), (.aload_n 0, 1, 0, 0), (.getfield 83, 3, 10, 28), (.iload_n 3, 1, 0, 0), (.iload 8, 2, 0, 0), (.iadd, 1, 0, 0), (.iaload, 1, 0, 0), (.iadd, 1, 0, 0), (.istore 7, 2, 0, 0)] (by decide +kernel) (Nat.le_refl _) (Nat.le_refl _) (fun K R hK hR => ?_)
        simp only [rw_b31, ↓rx_aload_n0, ↓rx_bipush, ↓rx_getfield, ↓rx_iadd, ↓rx_iaload, ↓rx_iload, ↓rx_iload_n3, ↓rx_imul, ↓rx_istore, ↓rx_nil, ↓ry_i1, ↓ry_i2, ↓ry_iau, ↓ry_li0s, ↓ry_li0z, ↓ry_lr0s, ↓ry_lr0z, ↓ry_obu, ↓ry_r1, ↓ry_ri, true_and, re_a28, ↓re_F28, ↓re_i28, ↓re_ob, e1, re_a61, ↓re_i61, rz_set, rz_nol, rz_clr, List.set_cons_zero, List.set_cons_succ, rz_tr, Nat.reduceAdd, Int.reduceAdd, Int.reduceToNat, Int.reduceSub, Int.reduceNeg, Int.cast_ofNat_Int]
        try simp (disch := omega) only [e1, pk_us, pk_un, va_up_self, va_up_ne, nI_add, pk_mul, nI_clamp, vp_inT, nI_ltI, nI_leI, nI_eqI, pk_sub, true_and, and_true]
        refine hK _ _ _ _ ?_
        refine rz_blk' [(.iinc 8 1, 3, 0, 0)] (by decide +kernel) (Nat.le_refl _) (Nat.le_refl _) (fun K R hK hR => ?_)
        simp only [rw_c1, ↓rx_iinc, ↓rx_nil, ↓ry_li0s, ↓ry_li0z, e1, re_a61, ↓re_i61, rz_set, rz_nol, rz_clr, List.set_cons_zero, List.set_cons_succ, rz_tr, Nat.reduceAdd, Int.reduceAdd, Int.reduceToNat, Int.reduceSub, Int.reduceNeg, Int.cast_ofNat_Int]
        try simp (disch := omega) only [e1, pk_us, pk_un, va_up_self, va_up_ne, nI_add, pk_mul, nI_clamp, vp_inT, nI_ltI, nI_leI, nI_eqI, pk_sub, true_and, and_true]
        refine hK _ _ _ _ ?_
        refine rz_blk' [(.goto (-46), 3, 0, 0)] (by decide +kernel) (Nat.le_refl _) (Nat.le_refl _) (fun K R hK hR => ?_)
        simp only [↓rx_goto, ↓rx_nil, e1, re_a61, ↓re_i61, rz_set, rz_nol, rz_clr, List.set_cons_zero, List.set_cons_succ, rz_tr, Nat.reduceAdd, Int.reduceAdd, Int.reduceToNat, Int.reduceSub, Int.reduceNeg, Int.cast_ofNat_Int]
        try simp (disch := omega) only [e1, pk_us, pk_un, va_up_self, va_up_ne, nI_add, pk_mul, nI_clamp, vp_inT, nI_ltI, nI_leI, nI_eqI, pk_sub, true_and, and_true]
        refine hK _ _ _ _ ?_
        rw [re_vv]
        exact ih
    have := s1 x.2.2.1.length 0 _ (Nat.zero_add _) rfl
    rw [cp_0, re_ve] at this
    exact this
  refine rz_enter' [some (.ref a), some (.int (nI p)), some (.int (nI q)), none, none, none, none, none, none, none] (by decide +kernel) rfl rfl (Nat.le_of_ble_eq_true rfl) rfl ?_
  refine rz_blk' [(.aload_n 0, 1, 0, 0)] (by decide +kernel) (Nat.le_refl _) (Nat.le_refl _) (fun K R hK hR => ?_)
  simp only [↓rx_aload_n0, ↓rx_nil, ↓ry_lr0s, ↓ry_lr0z, l1, l2, hm, b1, rz_set, rz_nol, rz_clr, List.set_cons_zero, List.set_cons_succ, rz_tr, Nat.reduceAdd, Int.reduceAdd, Int.reduceToNat, Int.reduceSub, Int.reduceNeg, Int.cast_ofNat_Int]
  try simp (disch := omega) only [l1, l2, hm, b1, pk_us, pk_un, va_up_self, va_up_ne, nI_add, pk_mul, nI_clamp, vp_inT, nI_ltI, nI_leI, nI_eqI, pk_sub, true_and, and_true]
  refine hK _ _ _ _ ?_
  refine rz_cV (As := []) (b := a) (S := []) l_Mod_259 (by decide +kernel) rfl re_at0 rfl (Nat.le_of_ble_eq_true rfl) (Nat.le_refl _) (Nat.le_refl _) (hal) (fun r G' hr => ?_)
  obtain ⟨rfl, rfl⟩ := hr
  simp only [Option.toList, List.cons_append, List.nil_append]
  refine rz_blk' [(.istore_n 3, 1, 0, 0)] (by decide +kernel) (Nat.le_refl _) (Nat.le_refl _) (fun K R hK hR => ?_)
  simp only [↓rx_istore_n3, ↓rx_nil, ↓ry_i1, l1, l2, hm, b1, rz_set, rz_nol, rz_clr, List.set_cons_zero, List.set_cons_succ, rz_tr, Nat.reduceAdd, Int.reduceAdd, Int.reduceToNat, Int.reduceSub, Int.reduceNeg, Int.cast_ofNat_Int]
  try simp (disch := omega) only [l1, l2, hm, b1, pk_us, pk_un, va_up_self, va_up_ne, nI_add, pk_mul, nI_clamp, vp_inT, nI_ltI, nI_leI, nI_eqI, pk_sub, true_and, and_true]
  refine hK _ _ _ _ ?_
  refine rz_blk' [(.aload_n 0, 1, 0, 0), (.getfield 253, 3, 10, 26), (.iload_n 3, 1, 0, 0), (.isub, 1, 0, 0), (.istore 4, 2, 0, 0)] (by decide +kernel) (Nat.le_refl _) (Nat.le_refl _) (fun K R hK hR => ?_)
  simp only [↓rx_aload_n0, ↓rx_getfield, ↓rx_iload_n3, ↓rx_istore, ↓rx_isub, ↓rx_nil, ↓ry_i1, ↓ry_i2, ↓ry_li0s, ↓ry_li0z, ↓ry_lr0s, ↓ry_lr0z, ↓ry_obu, ↓ry_r1, ↓re_F26, ↓re_ob, l1, l2, hm, b1, rz_set, rz_nol, rz_clr, List.set_cons_zero, List.set_cons_succ, rz_tr, Nat.reduceAdd, Int.reduceAdd, Int.reduceToNat, Int.reduceSub, Int.reduceNeg, Int.cast_ofNat_Int]
  try simp (disch := omega) only [l1, l2, hm, b1, pk_us, pk_un, va_up_self, va_up_ne, nI_add, pk_mul, nI_clamp, vp_inT, nI_ltI, nI_leI, nI_eqI, pk_sub, true_and, and_true]
  refine hK _ _ _ _ ?_
  refine rz_blk' [(.aload_n 0, 1, 0, 0), (.getfield 256, 3, 10, 27), (.iload_n 3, 1, 0, 0), (.isub, 1, 0, 0), (.istore 5, 2, 0, 0)] (by decide +kernel) (Nat.le_refl _) (Nat.le_refl _) (fun K R hK hR => ?_)
  simp only [↓rx_aload_n0, ↓rx_getfield, ↓rx_iload_n3, ↓rx_istore, ↓rx_isub, ↓rx_nil, ↓ry_i1, ↓ry_i2, ↓ry_li0s, ↓ry_li0z, ↓ry_lr0s, ↓ry_lr0z, ↓ry_obu, ↓ry_r1, ↓re_F27, ↓re_ob, l1, l2, hm, b1, rz_set, rz_nol, rz_clr, List.set_cons_zero, List.set_cons_succ, rz_tr, Nat.reduceAdd, Int.reduceAdd, Int.reduceToNat, Int.reduceSub, Int.reduceNeg, Int.cast_ofNat_Int]
  try simp (disch := omega) only [l1, l2, hm, b1, pk_us, pk_un, va_up_self, va_up_ne, nI_add, pk_mul, nI_clamp, vp_inT, nI_ltI, nI_leI, nI_eqI, pk_sub, true_and, and_true]
  refine hK _ _ _ _ ?_
  refine rz_blk' [(.iload 4, 2, 0, 0), (.aload_n 0, 1, 0, 0), (.getfield 345, 3, 10, 64), (.if_icmp .gt 12, 3, 0, 0)] (by decide +kernel) (Nat.le_refl _) (Nat.le_refl _) (fun K R hK hR => ?_)
  simp only [↓rx_aload_n0, ↓rx_getfield, ↓rx_if_icmp_gt, ↓rx_iload, ↓rx_nil, ↓ry_i2, ↓ry_li0s, ↓ry_li0z, ↓ry_lr0s, ↓ry_lr0z, ↓ry_obu, ↓ry_r1, ↓re_F64, ↓re_ob, l1, l2, hm, b1, rz_set, rz_nol, rz_clr, List.set_cons_zero, List.set_cons_succ, rz_tr, Nat.reduceAdd, Int.reduceAdd, Int.reduceToNat, Int.reduceSub, Int.reduceNeg, Int.cast_ofNat_Int]
  try simp (disch := omega) only [l1, l2, hm, b1, pk_us, pk_un, va_up_self, va_up_ne, nI_add, pk_mul, nI_clamp, vp_inT, nI_ltI, nI_leI, nI_eqI, pk_sub, true_and, and_true]
  refine ⟨fun q8 => hK _ _ _ _ ?_, fun q8 => hK _ _ _ _ ?_⟩
  · -- 27 taken
    refine rz_blk' [(.iconst 1, 1, 0, 0), (.ireturn, 1, 0, 0)] (by decide +kernel) (Nat.le_refl _) (Nat.le_refl _) (fun K R hK hR => ?_)
    simp only [rw_c1, ↓rx_iconst, ↓rx_ireturn, ↓rx_nil, l1, l2, hm, b1, rz_set, rz_nol, rz_clr, List.set_cons_zero, List.set_cons_succ, rz_tr, Nat.reduceAdd, Int.reduceAdd, Int.reduceToNat, Int.reduceSub, Int.reduceNeg, Int.cast_ofNat_Int]
    try simp (disch := omega) only [l1, l2, hm, b1, pk_us, pk_un, va_up_self, va_up_ne, nI_add, pk_mul, nI_clamp, vp_inT, nI_ltI, nI_leI, nI_eqI, pk_sub, true_and, and_true]
    first
      | exact hR _ _ (rz_nb_i (by decide)) (hsame (by omega))
      | exact hR _ _ (rz_nb_i (by decide)) (hfull (by omega) (by omega))
  · -- 27 not taken
    refine rz_blk' [(.iload 5, 2, 0, 0), (.aload_n 0, 1, 0, 0), (.getfield 345, 3, 10, 64), (.if_icmp .le 5, 3, 0, 0)] (by decide +kernel) (Nat.le_refl _) (Nat.le_refl _) (fun K R hK hR => ?_)
    simp only [↓rx_aload_n0, ↓rx_getfield, ↓rx_if_icmp_le, ↓rx_iload, ↓rx_nil, ↓ry_i2, ↓ry_li0s, ↓ry_li0z, ↓ry_lr0s, ↓ry_lr0z, ↓ry_obu, ↓ry_r1, ↓re_F64, ↓re_ob, l1, l2, hm, b1, rz_set, rz_nol, rz_clr, List.set_cons_zero, List.set_cons_succ, rz_tr, Nat.reduceAdd, Int.reduceAdd, Int.reduceToNat, Int.reduceSub, Int.reduceNeg, Int.cast_ofNat_Int]
    try simp (disch := omega) only [l1, l2, hm, b1, pk_us, pk_un, va_up_self, va_up_ne, nI_add, pk_mul, nI_clamp, vp_inT, nI_ltI, nI_leI, nI_eqI, pk_sub, true_and, and_true]
    refine ⟨fun q9 => hK _ _ _ _ ?_, fun q9 => hK _ _ _ _ ?_⟩
    · -- 36 taken
      refine rz_blk' [(.aload_n 0, 1, 0, 0), (.getfield 348, 3, 10, 58), (.sipush 3000, 3, 0, 0), (.if_icmp .le 5, 3, 0, 0)] (by decide +kernel) (Nat.le_refl _) (Nat.le_refl _) (fun K R hK hR => ?_)
      simp only [rw_s3000, ↓rx_aload_n0, ↓rx_getfield, ↓rx_if_icmp_le, ↓rx_nil, ↓rx_sipush, ↓ry_i2, ↓ry_lr0s, ↓ry_lr0z, ↓ry_obu, ↓ry_r1, ↓re_F58, ↓re_ob, l1, l2, hm, b1, rz_set, rz_nol, rz_clr, List.set_cons_zero, List.set_cons_succ, rz_tr, Nat.reduceAdd, Int.reduceAdd, Int.reduceToNat, Int.reduceSub, Int.reduceNeg, Int.cast_ofNat_Int]
      try simp (disch := omega) only [l1, l2, hm, b1, pk_us, pk_un, va_up_self, va_up_ne, nI_add, pk_mul, nI_clamp, vp_inT, nI_ltI, nI_leI, nI_eqI, pk_sub, true_and, and_true]
      refine ⟨fun q10 => hK _ _ _ _ ?_, fun q10 => hK _ _ _ _ ?_⟩
      · -- 48 taken
        refine rz_blk' [(.sipush 240, 3, 0, 0), (.aload_n 0, 1, 0, 0), (.getfield 348, 3, 10, 58), (.imul, 1, 0, 0), (.istore 6, 2, 0, 0)] (by decide +kernel) (Nat.le_refl _) (Nat.le_refl _) (fun K R hK hR => ?_)
        simp only [rw_s240, ↓rx_aload_n0, ↓rx_getfield, ↓rx_imul, ↓rx_istore, ↓rx_nil, ↓rx_sipush, ↓ry_i1, ↓ry_i2, ↓ry_lr0s, ↓ry_lr0z, ↓ry_obu, ↓ry_r1, ↓re_F58, ↓re_ob, l1, l2, hm, b1, rz_set, rz_nol, rz_clr, List.set_cons_zero, List.set_cons_succ, rz_tr, Nat.reduceAdd, Int.reduceAdd, Int.reduceToNat, Int.reduceSub, Int.reduceNeg, Int.cast_ofNat_Int]
        try simp (disch := omega) only [l1, l2, hm, b1, pk_us, pk_un, va_up_self, va_up_ne, nI_add, pk_mul, nI_clamp, vp_inT, nI_ltI, nI_leI, nI_eqI, pk_sub, true_and, and_true]
        refine hK _ _ _ _ ?_
        refine rz_blk' [(.bipush 7, 2, 0, 0), (.iload_n 1, 1, 0, 0), (.imul, 1, 0, 0), (.iload_n 2, 1, 0, 0), (.iadd, 1, 0, 0), (.istore 7, 2, 0, 0)] (by decide +kernel) (Nat.le_refl _) (Nat.le_refl _) (fun K R hK hR => ?_)
        simp only [rw_b7, ↓rx_bipush, ↓rx_iadd, ↓rx_iload_n1, ↓rx_iload_n2, ↓rx_imul, ↓rx_istore, ↓rx_nil, ↓ry_i1, ↓ry_i2, ↓ry_li0s, ↓ry_li0z, l1, l2, hm, b1, rz_set, rz_nol, rz_clr, List.set_cons_zero, List.set_cons_succ, rz_tr, Nat.reduceAdd, Int.reduceAdd, Int.reduceToNat, Int.reduceSub, Int.reduceNeg, Int.cast_ofNat_Int]
        try simp (disch := omega) only [l1, l2, hm, b1, pk_us, pk_un, va_up_self, va_up_ne, nI_add, pk_mul, nI_clamp, vp_inT, nI_ltI, nI_leI, nI_eqI, pk_sub, true_and, and_true]
        refine hK _ _ _ _ ?_
        refine rz_blk' [(.iconst 0, 1, 0, 0), (.istore 8, 2, 0, 0)] (by decide +kernel) (Nat.le_refl _) (Nat.le_refl _) (fun K R hK hR => ?_)
        simp only [rw_c0, ↓rx_iconst, ↓rx_istore, ↓rx_nil, ↓ry_i1, l1, l2, hm, b1, rz_set, rz_nol, rz_clr, List.set_cons_zero, List.set_cons_succ, rz_tr, Nat.reduceAdd, Int.reduceAdd, Int.reduceToNat, Int.reduceSub, Int.reduceNeg, Int.cast_ofNat_Int]
        try simp (disch := omega) only [l1, l2, hm, b1, pk_us, pk_un, va_up_self, va_up_ne, nI_add, pk_mul, nI_clamp, vp_inT, nI_ltI, nI_leI, nI_eqI, pk_sub, true_and, and_true]
        refine hK _ _ _ _ ?_
        rw [← x5, ← x6]
        exact hgo (by omega) (by omega)
      · -- 48 not taken
        refine rz_blk' [(.iconst 0, 1, 0, 0), (.ireturn, 1, 0, 0)] (by decide +kernel) (Nat.le_refl _) (Nat.le_refl _) (fun K R hK hR => ?_)
        simp only [rw_c0, ↓rx_iconst, ↓rx_ireturn, ↓rx_nil, l1, l2, hm, b1, rz_set, rz_nol, rz_clr, List.set_cons_zero, List.set_cons_succ, rz_tr, Nat.reduceAdd, Int.reduceAdd, Int.reduceToNat, Int.reduceSub, Int.reduceNeg, Int.cast_ofNat_Int]
        try simp (disch := omega) only [l1, l2, hm, b1, pk_us, pk_un, va_up_self, va_up_ne, nI_add, pk_mul, nI_clamp, vp_inT, nI_ltI, nI_leI, nI_eqI, pk_sub, true_and, and_true]
        first
          | exact hR _ _ (rz_nb_i (by decide)) (hsame (by omega))
          | exact hR _ _ (rz_nb_i (by decide)) (hfull (by omega) (by omega))
    · -- 36 not taken
      refine rz_blk' [(.iconst 1, 1, 0, 0), (.ireturn, 1, 0, 0)] (by decide +kernel) (Nat.le_refl _) (Nat.le_refl _) (fun K R hK hR => ?_)
      simp only [rw_c1, ↓rx_iconst, ↓rx_ireturn, ↓rx_nil, l1, l2, hm, b1, rz_set, rz_nol, rz_clr, List.set_cons_zero, List.set_cons_succ, rz_tr, Nat.reduceAdd, Int.reduceAdd, Int.reduceToNat, Int.reduceSub, Int.reduceNeg, Int.cast_ofNat_Int]
      try simp (disch := omega) only [l1, l2, hm, b1, pk_us, pk_un, va_up_self, va_up_ne, nI_add, pk_mul, nI_clamp, vp_inT, nI_ltI, nI_leI, nI_eqI, pk_sub, true_and, and_true]
      first
        | exact hR _ _ (rz_nb_i (by decide)) (hsame (by omega))
        | exact hR _ _ (rz_nb_i (by decide)) (hfull (by omega) (by omega))
