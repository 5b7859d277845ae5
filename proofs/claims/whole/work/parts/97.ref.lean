/-! the reference: findEnds, loadRest, moreOne, moreTwo -/
/-- pairs of states from which one word leads both to an end: closed backwards -/
def rk_c (T1 T2 : mv_T) (P : Nat → Prop) : Prop := (∀ p q, p < 6 → q < 6 → (T1.2.2.1 p).isSome = true → (T2.2.2.1 q).isSome = true → P (6 * p + q)) ∧ ∀ e, e ∈ T1.2.1 → ∀ f, f ∈ T2.2.1 → e.2.1 = f.2.1 → P (6 * e.2.2.1 + f.2.2.1) → P (6 * e.1 + f.1)
def rk_is (T1 T2 : mv_T) (c : Nat → Bool) : Prop := rk_c T1 T2 (fun i => c i = true) ∧ ∀ P : Nat → Prop, rk_c T1 T2 P → ∀ i, i < 36 → c i = true → P i
def rk_up (c : Nat → Bool) (k : Nat) : Nat → Bool := fun i => decide (i = k) || c i
def rk_n (c : Nat → Bool) : Nat := (List.range 36).countP c
theorem rk_n_up {c : Nat → Bool} {k : Nat} (hk : k < 36) (hc : c k = false) : rk_n (rk_up c k) = rk_n c + 1 := by
  have key : ∀ n, (List.range n).countP (rk_up c k) = (List.range n).countP c + if k < n then 1 else 0 := by
    intro n
    induction n with
    | zero => simp
    | succ n ih =>
      rw [List.range_succ, List.countP_append, List.countP_append, ih]
      simp only [List.countP_cons, List.countP_nil, Nat.zero_add]
      by_cases e : n = k
      · subst e; simp [rk_up, hc]
      · have : rk_up c k n = c n := by simp [rk_up, e]
        rw [this]
        by_cases c1 : k < n
        · rw [if_pos c1, if_pos (show k < n + 1 by omega)]; omega
        · rw [if_neg c1, if_neg (show ¬ k < n + 1 by omega)]; omega
  have := key 36
  rw [if_pos hk] at this
  exact this
theorem rk_n_le {c : Nat → Bool} : rk_n c ≤ 36 := by
  have := List.countP_le_length (p := c) (l := List.range 36)
  simpa [rk_n] using this
def rk_0 (T1 T2 : mv_T) (i : Nat) : Bool := (T1.2.2.1 (i / 6)).isSome && (T2.2.2.1 (i % 6)).isSome
set_option maxRecDepth 100000 in
set_option maxHeartbeats 400000 in
theorem c_Mod_findEnds {w : rz_w} {d : Nat} {G : rz_G} {a : Nat} {I : Nat → Int32} {A : Nat → Nat → Int32} {T1 T2 : mv_T} {g hh : Nat} (hg : g < 2) (hh2 : hh < 2) (t1 : re_t A g T1) (t2 : re_t A hh T2) (w1 : tw T1 32) (w2 : tw T2 32) : rz_C w d 0 0 y_Mod_findEnds m_Mod_findEnds [.ref a, .int (nI g), .int (nI hh)] (re_put G a I A) (fun (r : Option Value) (G' : rz_G) => r = none ∧ ∃ A' c, G' = re_put G a I A' ∧ fa [25] A A' ∧ (∀ i, i < 36 → A' 25 i = rz_b (c i)) ∧ rk_is T1 T2 c) := by
  generalize hQ : (fun (r : Option Value) (G' : rz_G) => r = none ∧ ∃ A' c, G' = re_put G a I A' ∧ fa [25] A A' ∧ (∀ i, i < 36 → A' 25 i = rz_b (c i)) ∧ rk_is T1 T2 c) = Q
  obtain ⟨u1, u2, u3, u4, u5, u6⟩ := id t1
  obtain ⟨v1, v2, v3, v4, v5, v6⟩ := id t2
  have l1 := w1.2.1
  have l2 := w2.2.1
  have hend : ∀ (A1 : Nat → Nat → Int32) (c : Nat → Bool) (z3 z4 z5 : Option Value), fa [25] A A1 → (∀ i, i < 36 → A1 25 i = rz_b (c i)) → rk_is T1 T2 c → rz_T w d 0 0 m_Mod_findEnds 0 0 238 [some (.ref a), some (.int (nI g)), some (.int (nI hh)), z3, z4, z5] [] (re_put G a I A1) Q := by
    intro A1 c z3 z4 z5 hf hc hi
    refine rz_blk' [(.return_, 1, 0, 0)] (by decide +kernel) (Nat.le_refl _) (Nat.le_refl _) (fun K R hK hR => ?_)
    simp only [↓rx_nil, ↓rx_return_, rz_set, rz_nol, rz_clr, List.set_cons_zero, List.set_cons_succ, rz_tr, Nat.reduceAdd, Int.reduceAdd, Int.reduceToNat, Int.reduceSub, Int.reduceNeg, Int.cast_ofNat_Int]
    try simp (disch := omega) only [pk_us, pk_un, va_up_self, va_up_ne, nI_add, pk_mul, nI_clamp, vp_inT, nI_ltI, nI_leI, nI_eqI, pk_sub, true_and, and_true]
    refine hR _ _ (rz_nb_i (by decide)) ?_
    rw [← hQ]
    exact ⟨rfl, _, c, rfl, hf, hc, hi⟩
  have wl : ∀ (n : Nat) (A0 : Nat → Nat → Int32) (c0 : Nat → Bool) (z4 z5 : Option Value), 37 - rk_n c0 ≤ n → fa [25] A A0 → (∀ i, i < 36 → A0 25 i = rz_b (c0 i)) → (∀ p q, p < 6 → q < 6 → (T1.2.2.1 p).isSome = true → (T2.2.2.1 q).isSome = true → c0 (6 * p + q) = true) → (∀ P : Nat → Prop, rk_c T1 T2 P → ∀ i, i < 36 → c0 i = true → P i) → rz_T w d 0 0 m_Mod_findEnds 0 0 82 [some (.ref a), some (.int (nI g)), some (.int (nI hh)), some (.int (rz_b true)), z4, z5] [] (re_put G a I A0) Q := by
    intro n
    induction n with
    | zero =>
      intro A0 c0 z4 z5 hn hf hc hb hl
      have := rk_n_le (c := c0)
      omega
    | succ n ih =>
      intro A0 c0 z4 z5 hn hf hc hb hl
      have el : ∀ (j e : Nat) (A1 : Nat → Nat → Int32) (c : Nat → Bool) (b : Bool) (z5 : Option Value), e + j = T1.2.1.length → fa [25] A A1 → (∀ i, i < 36 → A1 25 i = rz_b (c i)) → (∀ i, i < 36 → c0 i = true → c i = true) → (∀ P : Nat → Prop, rk_c T1 T2 P → ∀ i, i < 36 → c i = true → P i) → (b = true → rk_n c0 < rk_n c) → (b = false → (∀ i, i < 36 → c i = c0 i) ∧ ∀ i (hi : i < T1.2.1.length) k (hk : k < T2.2.1.length), i < e → T1.2.1[i].2.1 = T2.2.1[k].2.1 → c0 (6 * T1.2.1[i].2.2.1 + T2.2.1[k].2.2.1) = true → c0 (6 * T1.2.1[i].1 + T2.2.1[k].1) = true) → rz_T w d 0 0 m_Mod_findEnds 0 0 90 [some (.ref a), some (.int (nI g)), some (.int (nI hh)), some (.int (rz_b b)), some (.int (nI (24 * g + e))), z5] [] (re_put G a I A1) Q := by
        intro j
        induction j with
        | zero =>
          intro e A1 c b z5 hej kf kc ks kl k1 k0
          have e15 := kf 15 rfl
          refine rz_blk' [(.iload 4, 2, 0, 0), (.bipush 24, 2, 0, 0), (.iload_n 1, 1, 0, 0), (.imul, 1, 0, 0), (.aload_n 0, 1, 0, 0), (.getfield 50, 3, 10, 15), (.iload_n 1, 1, 0, 0), (.iaload, 1, 0, 0), (.iadd, 1, 0, 0), (.if_icmp .ge 132, 3, 0, 0)] (by decide +kernel) (Nat.le_refl _) (Nat.le_refl _) (fun K R hK hR => ?_)
          simp only [rw_b24, ↓rx_aload_n0, ↓rx_bipush, ↓rx_getfield, ↓rx_iadd, ↓rx_iaload, ↓rx_if_icmp_ge, ↓rx_iload, ↓rx_iload_n1, ↓rx_imul, ↓rx_nil, ↓ry_i2, ↓ry_iau, ↓ry_li0s, ↓ry_li0z, ↓ry_lr0s, ↓ry_lr0z, ↓ry_obu, ↓ry_r1, ↓ry_ri, true_and, re_a15, ↓re_F15, ↓re_i15, ↓re_ob, e15, u2, rz_set, rz_nol, rz_clr, List.set_cons_zero, List.set_cons_succ, rz_tr, Nat.reduceAdd, Int.reduceAdd, Int.reduceToNat, Int.reduceSub, Int.reduceNeg, Int.cast_ofNat_Int]
          try simp (disch := omega) only [e15, u2, pk_us, pk_un, va_up_self, va_up_ne, nI_add, pk_mul, nI_clamp, vp_inT, nI_ltI, nI_leI, nI_eqI, pk_sub, true_and, and_true]
          refine ⟨fun q1 => hK _ _ _ _ ?_, fun q1 => by omega⟩
          refine rz_blk' [(.goto (-157), 3, 0, 0)] (by decide +kernel) (Nat.le_refl _) (Nat.le_refl _) (fun K R hK hR => ?_)
          simp only [↓rx_goto, ↓rx_nil, e15, u2, rz_set, rz_nol, rz_clr, List.set_cons_zero, List.set_cons_succ, rz_tr, Nat.reduceAdd, Int.reduceAdd, Int.reduceToNat, Int.reduceSub, Int.reduceNeg, Int.cast_ofNat_Int]
          try simp (disch := omega) only [e15, u2, pk_us, pk_un, va_up_self, va_up_ne, nI_add, pk_mul, nI_clamp, vp_inT, nI_ltI, nI_leI, nI_eqI, pk_sub, true_and, and_true]
          refine hK _ _ _ _ ?_
          cases b with
          | true =>
            refine rz_blk' [(.iload_n 3, 1, 0, 0), (.ifCond .eq 159, 3, 0, 0)] (by decide +kernel) (Nat.le_refl _) (Nat.le_refl _) (fun K R hK hR => ?_)
            simp only [↓rx_ifCond_eq, ↓rx_iload_n3, ↓rx_nil, ↓ry_i1, ↓ry_li0s, ↓ry_li0z, rz_set, rz_nol, rz_clr, List.set_cons_zero, List.set_cons_succ, rz_tr, Nat.reduceAdd, Int.reduceAdd, Int.reduceToNat, Int.reduceSub, Int.reduceNeg, Int.cast_ofNat_Int]
            try simp (disch := omega) only [pk_us, pk_un, va_up_self, va_up_ne, nI_add, pk_mul, nI_clamp, vp_inT, nI_ltI, nI_leI, nI_eqI, pk_sub, true_and, and_true]
            refine ⟨fun q2 => absurd q2 (by decide), fun q2 => hK _ _ _ _ ?_⟩
            exact ih A1 c _ _ (by have := k1 rfl; omega) kf kc (fun p q hp hq x y => ks _ (by omega) (hb p q hp hq x y)) kl
          | false =>
            refine rz_blk' [(.iload_n 3, 1, 0, 0), (.ifCond .eq 159, 3, 0, 0)] (by decide +kernel) (Nat.le_refl _) (Nat.le_refl _) (fun K R hK hR => ?_)
            simp only [↓rx_ifCond_eq, ↓rx_iload_n3, ↓rx_nil, ↓ry_i1, ↓ry_li0s, ↓ry_li0z, rz_set, rz_nol, rz_clr, List.set_cons_zero, List.set_cons_succ, rz_tr, Nat.reduceAdd, Int.reduceAdd, Int.reduceToNat, Int.reduceSub, Int.reduceNeg, Int.cast_ofNat_Int]
            try simp (disch := omega) only [pk_us, pk_un, va_up_self, va_up_ne, nI_add, pk_mul, nI_clamp, vp_inT, nI_ltI, nI_leI, nI_eqI, pk_sub, true_and, and_true]
            refine ⟨fun q3 => hK _ _ _ _ ?_, fun q3 => by first | exact absurd rfl q3 | exact absurd trivial q3⟩
            refine hend _ c _ _ _ kf kc ⟨⟨fun p q hp hq x y => ks _ (by omega) (hb p q hp hq x y), fun x hx y hy hxy hc2 => ?_⟩, kl⟩
            obtain ⟨i, hi, rfl⟩ := List.mem_iff_getElem.mp hx
            obtain ⟨k, hk, rfl⟩ := List.mem_iff_getElem.mp hy
            obtain ⟨z1, z2⟩ := k0 rfl
            have b1 := tw_e w1 hi
            have b2 := tw_e w2 hk
            have hc2 : c (6 * T1.2.1[i].2.2.1 + T2.2.1[k].2.2.1) = true := hc2
            show c (6 * T1.2.1[i].1 + T2.2.1[k].1) = true
            rw [z1 _ (by omega)] at hc2 ⊢
            exact z2 i hi k hk (by omega) hxy hc2
        | succ j ihe =>
          intro e A1 c b z5 hej kf kc ks kl k1 k0
          have e15 := kf 15 rfl
          have heT : e < T1.2.1.length := by omega
          have fl : ∀ (j f : Nat) (A1 : Nat → Nat → Int32) (c : Nat → Bool) (b : Bool), f + j = T2.2.1.length → fa [25] A A1 → (∀ i, i < 36 → A1 25 i = rz_b (c i)) → (∀ i, i < 36 → c0 i = true → c i = true) → (∀ P : Nat → Prop, rk_c T1 T2 P → ∀ i, i < 36 → c i = true → P i) → (b = true → rk_n c0 < rk_n c) → (b = false → (∀ i, i < 36 → c i = c0 i) ∧ ∀ i (hi : i < T1.2.1.length) k (hk : k < T2.2.1.length), (i < e ∨ i = e ∧ k < f) → T1.2.1[i].2.1 = T2.2.1[k].2.1 → c0 (6 * T1.2.1[i].2.2.1 + T2.2.1[k].2.2.1) = true → c0 (6 * T1.2.1[i].1 + T2.2.1[k].1) = true) → rz_T w d 0 0 m_Mod_findEnds 0 0 112 [some (.ref a), some (.int (nI g)), some (.int (nI hh)), some (.int (rz_b b)), some (.int (nI (24 * g + e))), some (.int (nI (24 * hh + f)))] [] (re_put G a I A1) Q := by
            clear kf kc ks kl k1 k0 e15
            clear A1 c b z5
            intro j
            induction j with
            | zero =>
              intro f A1 c b hfj kf kc ks kl k1 k0
              have e15 := kf 15 rfl
              refine rz_blk' [(.iload 5, 2, 0, 0), (.bipush 24, 2, 0, 0), (.iload_n 2, 1, 0, 0), (.imul, 1, 0, 0), (.aload_n 0, 1, 0, 0), (.getfield 50, 3, 10, 15), (.iload_n 2, 1, 0, 0), (.iaload, 1, 0, 0), (.iadd, 1, 0, 0), (.if_icmp .ge 104, 3, 0, 0)] (by decide +kernel) (Nat.le_refl _) (Nat.le_refl _) (fun K R hK hR => ?_)
              simp only [rw_b24, ↓rx_aload_n0, ↓rx_bipush, ↓rx_getfield, ↓rx_iadd, ↓rx_iaload, ↓rx_if_icmp_ge, ↓rx_iload, ↓rx_iload_n2, ↓rx_imul, ↓rx_nil, ↓ry_i2, ↓ry_iau, ↓ry_li0s, ↓ry_li0z, ↓ry_lr0s, ↓ry_lr0z, ↓ry_obu, ↓ry_r1, ↓ry_ri, true_and, re_a15, ↓re_F15, ↓re_i15, ↓re_ob, e15, v2, rz_set, rz_nol, rz_clr, List.set_cons_zero, List.set_cons_succ, rz_tr, Nat.reduceAdd, Int.reduceAdd, Int.reduceToNat, Int.reduceSub, Int.reduceNeg, Int.cast_ofNat_Int]
              try simp (disch := omega) only [e15, v2, pk_us, pk_un, va_up_self, va_up_ne, nI_add, pk_mul, nI_clamp, vp_inT, nI_ltI, nI_leI, nI_eqI, pk_sub, true_and, and_true]
              refine ⟨fun q4 => hK _ _ _ _ ?_, fun q4 => by omega⟩
              refine rz_blk' [(.iinc 4 1, 3, 0, 0)] (by decide +kernel) (Nat.le_refl _) (Nat.le_refl _) (fun K R hK hR => ?_)
              simp only [rw_c1, ↓rx_iinc, ↓rx_nil, ↓ry_li0s, ↓ry_li0z, e15, v2, rz_set, rz_nol, rz_clr, List.set_cons_zero, List.set_cons_succ, rz_tr, Nat.reduceAdd, Int.reduceAdd, Int.reduceToNat, Int.reduceSub, Int.reduceNeg, Int.cast_ofNat_Int]
              try simp (disch := omega) only [e15, v2, pk_us, pk_un, va_up_self, va_up_ne, nI_add, pk_mul, nI_clamp, vp_inT, nI_ltI, nI_leI, nI_eqI, pk_sub, true_and, and_true]
              refine hK _ _ _ _ ?_
              refine rz_blk' [(.goto (-142), 3, 0, 0)] (by decide +kernel) (Nat.le_refl _) (Nat.le_refl _) (fun K R hK hR => ?_)
              simp only [↓rx_goto, ↓rx_nil, e15, v2, rz_set, rz_nol, rz_clr, List.set_cons_zero, List.set_cons_succ, rz_tr, Nat.reduceAdd, Int.reduceAdd, Int.reduceToNat, Int.reduceSub, Int.reduceNeg, Int.cast_ofNat_Int]
              try simp (disch := omega) only [e15, v2, pk_us, pk_un, va_up_self, va_up_ne, nI_add, pk_mul, nI_clamp, vp_inT, nI_ltI, nI_leI, nI_eqI, pk_sub, true_and, and_true]
              refine hK _ _ _ _ ?_
              refine ihe (e + 1) A1 c b _ (by omega) kf kc ks kl k1 (fun hb2 => ⟨(k0 hb2).1, fun i hi k hk hie => (k0 hb2).2 i hi k hk (by omega)⟩)
            | succ j ihf =>
              intro f A1 c b hfj kf kc ks kl k1 k0
              have e15 := kf 15 rfl
              have e16 := kf 16 rfl
              have e17 := kf 17 rfl
              have e18 := kf 18 rfl
              have hfT : f < T2.2.1.length := by omega
              obtain ⟨a1, a2, a3, -, -⟩ := u3 e heT
              obtain ⟨b1, b2, b3, -, -⟩ := v3 f hfT
              obtain ⟨x1, x2, x3, -, -⟩ := tw_e w1 heT
              obtain ⟨y1, y2, y3, -, -⟩ := tw_e w2 hfT
              have hnx : (b = false → (∀ i, i < 36 → c i = c0 i) ∧ (T1.2.1[e].2.1 = T2.2.1[f].2.1 → c0 (6 * T1.2.1[e].2.2.1 + T2.2.1[f].2.2.1) = true → c0 (6 * T1.2.1[e].1 + T2.2.1[f].1) = true)) → rz_T w d 0 0 m_Mod_findEnds 0 0 112 [some (.ref a), some (.int (nI g)), some (.int (nI hh)), some (.int (rz_b b)), some (.int (nI (24 * g + e))), some (.int (nI (24 * hh + (f + 1))))] [] (re_put G a I A1) Q := by
                intro hz
                refine ihf (f + 1) A1 c b (by omega) kf kc ks kl k1 (fun hb2 => ⟨(k0 hb2).1, fun i hi k hk hie => ?_⟩)
                by_cases q : i = e ∧ k = f
                · obtain ⟨rfl, rfl⟩ := q
                  exact (hz hb2).2
                · exact (k0 hb2).2 i hi k hk (by omega)
              refine rz_blk' [(.iload 5, 2, 0, 0), (.bipush 24, 2, 0, 0), (.iload_n 2, 1, 0, 0), (.imul, 1, 0, 0), (.aload_n 0, 1, 0, 0), (.getfield 50, 3, 10, 15), (.iload_n 2, 1, 0, 0), (.iaload, 1, 0, 0), (.iadd, 1, 0, 0), (.if_icmp .ge 104, 3, 0, 0)] (by decide +kernel) (Nat.le_refl _) (Nat.le_refl _) (fun K R hK hR => ?_)
              simp only [rw_b24, ↓rx_aload_n0, ↓rx_bipush, ↓rx_getfield, ↓rx_iadd, ↓rx_iaload, ↓rx_if_icmp_ge, ↓rx_iload, ↓rx_iload_n2, ↓rx_imul, ↓rx_nil, ↓ry_i2, ↓ry_iau, ↓ry_li0s, ↓ry_li0z, ↓ry_lr0s, ↓ry_lr0z, ↓ry_obu, ↓ry_r1, ↓ry_ri, true_and, re_a15, ↓re_F15, ↓re_i15, ↓re_ob, e15, e16, e17, e18, v2, a1, a2, a3, b1, b2, b3, re_a25, ↓re_i25, rz_set, rz_nol, rz_clr, List.set_cons_zero, List.set_cons_succ, rz_tr, Nat.reduceAdd, Int.reduceAdd, Int.reduceToNat, Int.reduceSub, Int.reduceNeg, Int.cast_ofNat_Int]
              try simp (disch := omega) only [e15, e16, e17, e18, v2, a1, a2, a3, b1, b2, b3, kc, rb_0, nar_1, pk_us, pk_un, va_up_self, va_up_ne, nI_add, pk_mul, nI_clamp, vp_inT, nI_ltI, nI_leI, nI_eqI, pk_sub, true_and, and_true]
              refine ⟨fun q5 => by omega, fun q5 => hK _ _ _ _ ?_⟩
              refine rz_blk' [(.aload_n 0, 1, 0, 0), (.getfield 56, 3, 10, 17), (.iload 4, 2, 0, 0), (.iaload, 1, 0, 0), (.aload_n 0, 1, 0, 0), (.getfield 56, 3, 10, 17), (.iload 5, 2, 0, 0), (.iaload, 1, 0, 0), (.if_icmp .ne 81, 3, 0, 0)] (by decide +kernel) (Nat.le_refl _) (Nat.le_refl _) (fun K R hK hR => ?_)
              simp only [↓rx_aload_n0, ↓rx_getfield, ↓rx_iaload, ↓rx_if_icmp_ne, ↓rx_iload, ↓rx_nil, ↓ry_i2, ↓ry_iau, ↓ry_li0s, ↓ry_li0z, ↓ry_lr0s, ↓ry_lr0z, ↓ry_obu, ↓ry_r1, ↓ry_ri, true_and, re_a17, ↓re_F17, ↓re_i17, ↓re_ob, e15, e16, e17, e18, v2, a1, a2, a3, b1, b2, b3, re_a25, ↓re_i25, rz_set, rz_nol, rz_clr, List.set_cons_zero, List.set_cons_succ, rz_tr, Nat.reduceAdd, Int.reduceAdd, Int.reduceToNat, Int.reduceSub, Int.reduceNeg, Int.cast_ofNat_Int]
              try simp (disch := omega) only [e15, e16, e17, e18, v2, a1, a2, a3, b1, b2, b3, kc, rb_0, nar_1, pk_us, pk_un, va_up_self, va_up_ne, nI_add, pk_mul, nI_clamp, vp_inT, nI_ltI, nI_leI, nI_eqI, pk_sub, true_and, and_true]
              refine ⟨fun q6 => hK _ _ _ _ ?_, fun q6 => hK _ _ _ _ ?_⟩
              · -- 142 taken
                refine rz_blk' [(.iinc 5 1, 3, 0, 0)] (by decide +kernel) (Nat.le_refl _) (Nat.le_refl _) (fun K R hK hR => ?_)
                simp only [rw_c1, ↓rx_iinc, ↓rx_nil, ↓ry_li0s, ↓ry_li0z, e15, e16, e17, e18, v2, a1, a2, a3, b1, b2, b3, re_a25, ↓re_i25, rz_set, rz_nol, rz_clr, List.set_cons_zero, List.set_cons_succ, rz_tr, Nat.reduceAdd, Int.reduceAdd, Int.reduceToNat, Int.reduceSub, Int.reduceNeg, Int.cast_ofNat_Int]
                try simp (disch := omega) only [e15, e16, e17, e18, v2, a1, a2, a3, b1, b2, b3, kc, rb_0, nar_1, pk_us, pk_un, va_up_self, va_up_ne, nI_add, pk_mul, nI_clamp, vp_inT, nI_ltI, nI_leI, nI_eqI, pk_sub, true_and, and_true]
                refine hK _ _ _ _ ?_
                refine rz_blk' [(.goto (-114), 3, 0, 0)] (by decide +kernel) (Nat.le_refl _) (Nat.le_refl _) (fun K R hK hR => ?_)
                simp only [↓rx_goto, ↓rx_nil, e15, e16, e17, e18, v2, a1, a2, a3, b1, b2, b3, re_a25, ↓re_i25, rz_set, rz_nol, rz_clr, List.set_cons_zero, List.set_cons_succ, rz_tr, Nat.reduceAdd, Int.reduceAdd, Int.reduceToNat, Int.reduceSub, Int.reduceNeg, Int.cast_ofNat_Int]
                try simp (disch := omega) only [e15, e16, e17, e18, v2, a1, a2, a3, b1, b2, b3, kc, rb_0, nar_1, pk_us, pk_un, va_up_self, va_up_ne, nI_add, pk_mul, nI_clamp, vp_inT, nI_ltI, nI_leI, nI_eqI, pk_sub, true_and, and_true]
                refine hK _ _ _ _ ?_
                first
                  | exact hnx (fun hb2 => ⟨(k0 hb2).1, fun hl => absurd hl (by assumption)⟩)
                  | exact hnx (fun hb2 => ⟨(k0 hb2).1, fun _ hx => by
                      rw [← (k0 hb2).1 _ (by omega)] at hx
                      have q2 : c (6 * T1.2.1[e].2.2.1 + T2.2.1[f].2.2.1) = false := (by assumption)
                      rw [q2] at hx; cases hx⟩)
                  | exact hnx (fun hb2 => ⟨(k0 hb2).1, fun _ _ => by
                      rw [← (k0 hb2).1 _ (by omega)]
                      exact (Bool.eq_false_or_eq_true _).resolve_right (by assumption)⟩)
                  | (have hcn : c (6 * T1.2.1[e].1 + T2.2.1[f].1) = false := (by first | assumption | simpa using q6)
                     have hct : c (6 * T1.2.1[e].2.2.1 + T2.2.1[f].2.2.1) = true := (by first | simpa using q5 | assumption)
                     have hcnt := rk_n_up (c := c) (k := 6 * T1.2.1[e].1 + T2.2.1[f].1) (by omega) hcn
                     refine ihf (f + 1) _ (rk_up c (6 * T1.2.1[e].1 + T2.2.1[f].1)) true (by omega) (kf.u rfl) (fun i hi => ?_) (fun i hi hx => ?_) (fun P hP i hi hx => ?_) (fun _ => ?_) (fun q => by cases q)
                     · rw [va_up_self]
                       by_cases ci : i = 6 * T1.2.1[e].1 + T2.2.1[f].1
                       · subst ci; rw [pk_us]; simp [rk_up]; rfl
                       · rw [pk_un ci, kc i hi]; simp [rk_up, ci]
                     · simp [rk_up, ks i hi hx]
                     · by_cases ci : i = 6 * T1.2.1[e].1 + T2.2.1[f].1
                       · subst ci
                         exact hP.2 _ (List.getElem_mem heT) _ (List.getElem_mem hfT) (by simpa using @3) (kl P hP _ (by omega) hct)
                       · exact kl P hP i hi (by simpa [rk_up, ci] using hx)
                     · rw [hcnt]
                       cases b with
                       | true => have := k1 rfl; omega
                       | false =>
                         have he : rk_n c = rk_n c0 := by
                           unfold rk_n
                           refine List.countP_congr (fun i hi => ?_)
                           rw [(k0 rfl).1 i (by simpa using hi)]
                         omega)
              · -- 142 not taken
                refine rz_blk' [(.aload_n 0, 1, 0, 0), (.getfield 80, 3, 10, 25), (.bipush 6, 2, 0, 0), (.aload_n 0, 1, 0, 0), (.getfield 59, 3, 10, 18), (.iload 4, 2, 0, 0), (.iaload, 1, 0, 0), (.imul, 1, 0, 0), (.aload_n 0, 1, 0, 0), (.getfield 59, 3, 10, 18), (.iload 5, 2, 0, 0), (.iaload, 1, 0, 0), (.iadd, 1, 0, 0), (.baload, 1, 0, 0), (.ifCond .eq 55, 3, 0, 0)] (by decide +kernel) (Nat.le_refl _) (Nat.le_refl _) (fun K R hK hR => ?_)
                simp only [Nat.reduceEqDiff, false_or, or_false, or_true, reduceIte, rw_b6, ↓rx_aload_n0, ↓rx_baload, ↓rx_bipush, ↓rx_getfield, ↓rx_iadd, ↓rx_iaload, ↓rx_ifCond_eq, ↓rx_iload, ↓rx_imul, ↓rx_nil, ↓ry_i1, ↓ry_i2, ↓ry_iau, ↓ry_li0s, ↓ry_li0z, ↓ry_lr0s, ↓ry_lr0z, ↓ry_obu, ↓ry_r1, ↓ry_ri, true_and, true_or, re_a18, re_a25, ↓re_F18, ↓re_F25, ↓re_i18, ↓re_i25, ↓re_ob, e15, e16, e17, e18, v2, a1, a2, a3, b1, b2, b3, re_a25, ↓re_i25, rz_set, rz_nol, rz_clr, List.set_cons_zero, List.set_cons_succ, rz_tr, Nat.reduceAdd, Int.reduceAdd, Int.reduceToNat, Int.reduceSub, Int.reduceNeg, Int.cast_ofNat_Int]
                try simp (disch := omega) only [e15, e16, e17, e18, v2, a1, a2, a3, b1, b2, b3, kc, rb_0, nar_1, pk_us, pk_un, va_up_self, va_up_ne, nI_add, pk_mul, nI_clamp, vp_inT, nI_ltI, nI_leI, nI_eqI, pk_sub, true_and, and_true]
                refine ⟨fun q7 => hK _ _ _ _ ?_, fun q7 => hK _ _ _ _ ?_⟩
                · -- 168 taken
                  refine rz_blk' [(.iinc 5 1, 3, 0, 0)] (by decide +kernel) (Nat.le_refl _) (Nat.le_refl _) (fun K R hK hR => ?_)
                  simp only [rw_c1, ↓rx_iinc, ↓rx_nil, ↓ry_li0s, ↓ry_li0z, e15, e16, e17, e18, v2, a1, a2, a3, b1, b2, b3, re_a25, ↓re_i25, rz_set, rz_nol, rz_clr, List.set_cons_zero, List.set_cons_succ, rz_tr, Nat.reduceAdd, Int.reduceAdd, Int.reduceToNat, Int.reduceSub, Int.reduceNeg, Int.cast_ofNat_Int]
                  try simp (disch := omega) only [e15, e16, e17, e18, v2, a1, a2, a3, b1, b2, b3, kc, rb_0, nar_1, pk_us, pk_un, va_up_self, va_up_ne, nI_add, pk_mul, nI_clamp, vp_inT, nI_ltI, nI_leI, nI_eqI, pk_sub, true_and, and_true]
                  refine hK _ _ _ _ ?_
                  refine rz_blk' [(.goto (-114), 3, 0, 0)] (by decide +kernel) (Nat.le_refl _) (Nat.le_refl _) (fun K R hK hR => ?_)
                  simp only [↓rx_goto, ↓rx_nil, e15, e16, e17, e18, v2, a1, a2, a3, b1, b2, b3, re_a25, ↓re_i25, rz_set, rz_nol, rz_clr, List.set_cons_zero, List.set_cons_succ, rz_tr, Nat.reduceAdd, Int.reduceAdd, Int.reduceToNat, Int.reduceSub, Int.reduceNeg, Int.cast_ofNat_Int]
                  try simp (disch := omega) only [e15, e16, e17, e18, v2, a1, a2, a3, b1, b2, b3, kc, rb_0, nar_1, pk_us, pk_un, va_up_self, va_up_ne, nI_add, pk_mul, nI_clamp, vp_inT, nI_ltI, nI_leI, nI_eqI, pk_sub, true_and, and_true]
                  refine hK _ _ _ _ ?_
                  first
                    | exact hnx (fun hb2 => ⟨(k0 hb2).1, fun hl => absurd hl (by assumption)⟩)
                    | exact hnx (fun hb2 => ⟨(k0 hb2).1, fun _ hx => by
                        rw [← (k0 hb2).1 _ (by omega)] at hx
                        have q2 : c (6 * T1.2.1[e].2.2.1 + T2.2.1[f].2.2.1) = false := (by assumption)
                        rw [q2] at hx; cases hx⟩)
                    | exact hnx (fun hb2 => ⟨(k0 hb2).1, fun _ _ => by
                        rw [← (k0 hb2).1 _ (by omega)]
                        exact (Bool.eq_false_or_eq_true _).resolve_right (by assumption)⟩)
                    | (have hcn : c (6 * T1.2.1[e].1 + T2.2.1[f].1) = false := (by first | assumption | simpa using q7)
                       have hct : c (6 * T1.2.1[e].2.2.1 + T2.2.1[f].2.2.1) = true := (by first | simpa using q6 | assumption)
                       have hcnt := rk_n_up (c := c) (k := 6 * T1.2.1[e].1 + T2.2.1[f].1) (by omega) hcn
                       refine ihf (f + 1) _ (rk_up c (6 * T1.2.1[e].1 + T2.2.1[f].1)) true (by omega) (kf.u rfl) (fun i hi => ?_) (fun i hi hx => ?_) (fun P hP i hi hx => ?_) (fun _ => ?_) (fun q => by cases q)
                       · rw [va_up_self]
                         by_cases ci : i = 6 * T1.2.1[e].1 + T2.2.1[f].1
                         · subst ci; rw [pk_us]; simp [rk_up]; rfl
                         · rw [pk_un ci, kc i hi]; simp [rk_up, ci]
                       · simp [rk_up, ks i hi hx]
                       · by_cases ci : i = 6 * T1.2.1[e].1 + T2.2.1[f].1
                         · subst ci
                           exact hP.2 _ (List.getElem_mem heT) _ (List.getElem_mem hfT) (by simpa using q5) (kl P hP _ (by omega) hct)
                         · exact kl P hP i hi (by simpa [rk_up, ci] using hx)
                       · rw [hcnt]
                         cases b with
                         | true => have := k1 rfl; omega
                         | false =>
                           have he : rk_n c = rk_n c0 := by
                             unfold rk_n
                             refine List.countP_congr (fun i hi => ?_)
                             rw [(k0 rfl).1 i (by simpa using hi)]
                           omega)
                · -- 168 not taken
                  refine rz_blk' [(.aload_n 0, 1, 0, 0), (.getfield 80, 3, 10, 25), (.bipush 6, 2, 0, 0), (.aload_n 0, 1, 0, 0), (.getfield 53, 3, 10, 16), (.iload 4, 2, 0, 0), (.iaload, 1, 0, 0), (.imul, 1, 0, 0), (.aload_n 0, 1, 0, 0), (.getfield 53, 3, 10, 16), (.iload 5, 2, 0, 0), (.iaload, 1, 0, 0), (.iadd, 1, 0, 0), (.baload, 1, 0, 0), (.ifCond .ne 29, 3, 0, 0)] (by decide +kernel) (Nat.le_refl _) (Nat.le_refl _) (fun K R hK hR => ?_)
                  simp only [Nat.reduceEqDiff, false_or, or_false, or_true, reduceIte, rw_b6, ↓rx_aload_n0, ↓rx_baload, ↓rx_bipush, ↓rx_getfield, ↓rx_iadd, ↓rx_iaload, ↓rx_ifCond_ne, ↓rx_iload, ↓rx_imul, ↓rx_nil, ↓ry_i1, ↓ry_i2, ↓ry_iau, ↓ry_li0s, ↓ry_li0z, ↓ry_lr0s, ↓ry_lr0z, ↓ry_obu, ↓ry_r1, ↓ry_ri, true_and, true_or, re_a16, re_a25, ↓re_F16, ↓re_F25, ↓re_i16, ↓re_i25, ↓re_ob, e15, e16, e17, e18, v2, a1, a2, a3, b1, b2, b3, re_a25, ↓re_i25, rz_set, rz_nol, rz_clr, List.set_cons_zero, List.set_cons_succ, rz_tr, Nat.reduceAdd, Int.reduceAdd, Int.reduceToNat, Int.reduceSub, Int.reduceNeg, Int.cast_ofNat_Int]
                  try simp (disch := omega) only [e15, e16, e17, e18, v2, a1, a2, a3, b1, b2, b3, kc, rb_0, nar_1, pk_us, pk_un, va_up_self, va_up_ne, nI_add, pk_mul, nI_clamp, vp_inT, nI_ltI, nI_leI, nI_eqI, pk_sub, true_and, and_true]
                  refine ⟨fun q8 => hK _ _ _ _ ?_, fun q8 => hK _ _ _ _ ?_⟩
                  · -- 194 taken
                    refine rz_blk' [(.iinc 5 1, 3, 0, 0)] (by decide +kernel) (Nat.le_refl _) (Nat.le_refl _) (fun K R hK hR => ?_)
                    simp only [rw_c1, ↓rx_iinc, ↓rx_nil, ↓ry_li0s, ↓ry_li0z, e15, e16, e17, e18, v2, a1, a2, a3, b1, b2, b3, re_a25, ↓re_i25, rz_set, rz_nol, rz_clr, List.set_cons_zero, List.set_cons_succ, rz_tr, Nat.reduceAdd, Int.reduceAdd, Int.reduceToNat, Int.reduceSub, Int.reduceNeg, Int.cast_ofNat_Int]
                    try simp (disch := omega) only [e15, e16, e17, e18, v2, a1, a2, a3, b1, b2, b3, kc, rb_0, nar_1, pk_us, pk_un, va_up_self, va_up_ne, nI_add, pk_mul, nI_clamp, vp_inT, nI_ltI, nI_leI, nI_eqI, pk_sub, true_and, and_true]
                    refine hK _ _ _ _ ?_
                    refine rz_blk' [(.goto (-114), 3, 0, 0)] (by decide +kernel) (Nat.le_refl _) (Nat.le_refl _) (fun K R hK hR => ?_)
                    simp only [↓rx_goto, ↓rx_nil, e15, e16, e17, e18, v2, a1, a2, a3, b1, b2, b3, re_a25, ↓re_i25, rz_set, rz_nol, rz_clr, List.set_cons_zero, List.set_cons_succ, rz_tr, Nat.reduceAdd, Int.reduceAdd, Int.reduceToNat, Int.reduceSub, Int.reduceNeg, Int.cast_ofNat_Int]
                    try simp (disch := omega) only [e15, e16, e17, e18, v2, a1, a2, a3, b1, b2, b3, kc, rb_0, nar_1, pk_us, pk_un, va_up_self, va_up_ne, nI_add, pk_mul, nI_clamp, vp_inT, nI_ltI, nI_leI, nI_eqI, pk_sub, true_and, and_true]
                    refine hK _ _ _ _ ?_
                    first
                      | exact hnx (fun hb2 => ⟨(k0 hb2).1, fun hl => absurd hl (by assumption)⟩)
                      | exact hnx (fun hb2 => ⟨(k0 hb2).1, fun _ hx => by
                          rw [← (k0 hb2).1 _ (by omega)] at hx
                          have q2 : c (6 * T1.2.1[e].2.2.1 + T2.2.1[f].2.2.1) = false := (by assumption)
                          rw [q2] at hx; cases hx⟩)
                      | exact hnx (fun hb2 => ⟨(k0 hb2).1, fun _ _ => by
                          rw [← (k0 hb2).1 _ (by omega)]
                          exact (Bool.eq_false_or_eq_true _).resolve_right (by assumption)⟩)
                      | (have hcn : c (6 * T1.2.1[e].1 + T2.2.1[f].1) = false := (by first | assumption | simpa using q8)
                         have hct : c (6 * T1.2.1[e].2.2.1 + T2.2.1[f].2.2.1) = true := (by first | simpa using q7 | assumption)
                         have hcnt := rk_n_up (c := c) (k := 6 * T1.2.1[e].1 + T2.2.1[f].1) (by omega) hcn
                         refine ihf (f + 1) _ (rk_up c (6 * T1.2.1[e].1 + T2.2.1[f].1)) true (by omega) (kf.u rfl) (fun i hi => ?_) (fun i hi hx => ?_) (fun P hP i hi hx => ?_) (fun _ => ?_) (fun q => by cases q)
                         · rw [va_up_self]
                           by_cases ci : i = 6 * T1.2.1[e].1 + T2.2.1[f].1
                           · subst ci; rw [pk_us]; simp [rk_up]; rfl
                           · rw [pk_un ci, kc i hi]; simp [rk_up, ci]
                         · simp [rk_up, ks i hi hx]
                         · by_cases ci : i = 6 * T1.2.1[e].1 + T2.2.1[f].1
                           · subst ci
                             exact hP.2 _ (List.getElem_mem heT) _ (List.getElem_mem hfT) (by simpa using q6) (kl P hP _ (by omega) hct)
                           · exact kl P hP i hi (by simpa [rk_up, ci] using hx)
                         · rw [hcnt]
                           cases b with
                           | true => have := k1 rfl; omega
                           | false =>
                             have he : rk_n c = rk_n c0 := by
                               unfold rk_n
                               refine List.countP_congr (fun i hi => ?_)
                               rw [(k0 rfl).1 i (by simpa using hi)]
                             omega)
                  · -- 194 not taken
                    refine rz_blk' [(.aload_n 0, 1, 0, 0), (.getfield 80, 3, 10, 25), (.bipush 6, 2, 0, 0), (.aload_n 0, 1, 0, 0), (.getfield 53, 3, 10, 16), (.iload 4, 2, 0, 0), (.iaload, 1, 0, 0), (.imul, 1, 0, 0), (.aload_n 0, 1, 0, 0), (.getfield 53, 3, 10, 16), (.iload 5, 2, 0, 0), (.iaload, 1, 0, 0), (.iadd, 1, 0, 0), (.iconst 1, 1, 0, 0), (.bastore, 1, 0, 0)] (by decide +kernel) (Nat.le_refl _) (Nat.le_refl _) (fun K R hK hR => ?_)
                    simp only [Nat.reduceEqDiff, false_or, or_false, or_true, reduceIte, rw_b6, rw_c1, ↓rx_aload_n0, ↓rx_bastore, ↓rx_bipush, ↓rx_getfield, ↓rx_iadd, ↓rx_iaload, ↓rx_iconst, ↓rx_iload, ↓rx_imul, ↓rx_nil, ↓ry_i2, ↓ry_iau, ↓ry_li0s, ↓ry_li0z, ↓ry_lr0s, ↓ry_lr0z, ↓ry_obu, ↓ry_r1, ↓ry_ri, ↓ry_rii, true_and, true_or, re_a16, re_a25, ↓re_F16, ↓re_F25, ↓re_i16, ↓re_i25, ↓re_ob, e15, e16, e17, e18, v2, a1, a2, a3, b1, b2, b3, re_a25, ↓re_i25, rz_set, rz_nol, rz_clr, List.set_cons_zero, List.set_cons_succ, rz_tr, Nat.reduceAdd, Int.reduceAdd, Int.reduceToNat, Int.reduceSub, Int.reduceNeg, Int.cast_ofNat_Int]
                    try simp (disch := omega) only [e15, e16, e17, e18, v2, a1, a2, a3, b1, b2, b3, kc, rb_0, nar_1, pk_us, pk_un, va_up_self, va_up_ne, nI_add, pk_mul, nI_clamp, vp_inT, nI_ltI, nI_leI, nI_eqI, pk_sub, true_and, and_true]
                    refine hK _ _ _ _ ?_
                    refine rz_blk' [(.iconst 1, 1, 0, 0), (.istore_n 3, 1, 0, 0)] (by decide +kernel) (Nat.le_refl _) (Nat.le_refl _) (fun K R hK hR => ?_)
                    simp only [rw_c1, ↓rx_iconst, ↓rx_istore_n3, ↓rx_nil, ↓ry_i1, e15, e16, e17, e18, v2, a1, a2, a3, b1, b2, b3, re_a25, ↓re_i25, rz_set, rz_nol, rz_clr, List.set_cons_zero, List.set_cons_succ, rz_tr, Nat.reduceAdd, Int.reduceAdd, Int.reduceToNat, Int.reduceSub, Int.reduceNeg, Int.cast_ofNat_Int]
                    try simp (disch := omega) only [e15, e16, e17, e18, v2, a1, a2, a3, b1, b2, b3, kc, rb_0, nar_1, pk_us, pk_un, va_up_self, va_up_ne, nI_add, pk_mul, nI_clamp, vp_inT, nI_ltI, nI_leI, nI_eqI, pk_sub, true_and, and_true]
                    refine hK _ _ _ _ ?_
                    refine rz_blk' [(.iinc 5 1, 3, 0, 0)] (by decide +kernel) (Nat.le_refl _) (Nat.le_refl _) (fun K R hK hR => ?_)
                    simp only [rw_c1, ↓rx_iinc, ↓rx_nil, ↓ry_li0s, ↓ry_li0z, e15, e16, e17, e18, v2, a1, a2, a3, b1, b2, b3, re_a25, ↓re_i25, rz_set, rz_nol, rz_clr, List.set_cons_zero, List.set_cons_succ, rz_tr, Nat.reduceAdd, Int.reduceAdd, Int.reduceToNat, Int.reduceSub, Int.reduceNeg, Int.cast_ofNat_Int]
                    try simp (disch := omega) only [e15, e16, e17, e18, v2, a1, a2, a3, b1, b2, b3, kc, rb_0, nar_1, pk_us, pk_un, va_up_self, va_up_ne, nI_add, pk_mul, nI_clamp, vp_inT, nI_ltI, nI_leI, nI_eqI, pk_sub, true_and, and_true]
                    refine hK _ _ _ _ ?_
                    refine rz_blk' [(.goto (-114), 3, 0, 0)] (by decide +kernel) (Nat.le_refl _) (Nat.le_refl _) (fun K R hK hR => ?_)
                    simp only [↓rx_goto, ↓rx_nil, e15, e16, e17, e18, v2, a1, a2, a3, b1, b2, b3, re_a25, ↓re_i25, rz_set, rz_nol, rz_clr, List.set_cons_zero, List.set_cons_succ, rz_tr, Nat.reduceAdd, Int.reduceAdd, Int.reduceToNat, Int.reduceSub, Int.reduceNeg, Int.cast_ofNat_Int]
                    try simp (disch := omega) only [e15, e16, e17, e18, v2, a1, a2, a3, b1, b2, b3, kc, rb_0, nar_1, pk_us, pk_un, va_up_self, va_up_ne, nI_add, pk_mul, nI_clamp, vp_inT, nI_ltI, nI_leI, nI_eqI, pk_sub, true_and, and_true]
                    refine hK _ _ _ _ ?_
                    first
                      | exact hnx (fun hb2 => ⟨(k0 hb2).1, fun hl => absurd hl (by assumption)⟩)
                      | exact hnx (fun hb2 => ⟨(k0 hb2).1, fun _ hx => by
                          rw [← (k0 hb2).1 _ (by omega)] at hx
                          have q2 : c (6 * T1.2.1[e].2.2.1 + T2.2.1[f].2.2.1) = false := (by assumption)
                          rw [q2] at hx; cases hx⟩)
                      | exact hnx (fun hb2 => ⟨(k0 hb2).1, fun _ _ => by
                          rw [← (k0 hb2).1 _ (by omega)]
                          exact (Bool.eq_false_or_eq_true _).resolve_right (by assumption)⟩)
                      | (have hcn : c (6 * T1.2.1[e].1 + T2.2.1[f].1) = false := (by first | assumption | simpa using q8)
                         have hct : c (6 * T1.2.1[e].2.2.1 + T2.2.1[f].2.2.1) = true := (by first | simpa using q7 | assumption)
                         have hcnt := rk_n_up (c := c) (k := 6 * T1.2.1[e].1 + T2.2.1[f].1) (by omega) hcn
                         refine ihf (f + 1) _ (rk_up c (6 * T1.2.1[e].1 + T2.2.1[f].1)) true (by omega) (kf.u rfl) (fun i hi => ?_) (fun i hi hx => ?_) (fun P hP i hi hx => ?_) (fun _ => ?_) (fun q => by cases q)
                         · rw [va_up_self]
                           by_cases ci : i = 6 * T1.2.1[e].1 + T2.2.1[f].1
                           · subst ci; rw [pk_us]; simp [rk_up]; rfl
                           · rw [pk_un ci, kc i hi]; simp [rk_up, ci]
                         · simp [rk_up, ks i hi hx]
                         · by_cases ci : i = 6 * T1.2.1[e].1 + T2.2.1[f].1
                           · subst ci
                             exact hP.2 _ (List.getElem_mem heT) _ (List.getElem_mem hfT) (by simpa using q6) (kl P hP _ (by omega) hct)
                           · exact kl P hP i hi (by simpa [rk_up, ci] using hx)
                         · rw [hcnt]
                           cases b with
                           | true => have := k1 rfl; omega
                           | false =>
                             have he : rk_n c = rk_n c0 := by
                               unfold rk_n
                               refine List.countP_congr (fun i hi => ?_)
                               rw [(k0 rfl).1 i (by simpa using hi)]
                             omega)
          refine rz_blk' [(.iload 4, 2, 0, 0), (.bipush 24, 2, 0, 0), (.iload_n 1, 1, 0, 0), (.imul, 1, 0, 0), (.aload_n 0, 1, 0, 0), (.getfield 50, 3, 10, 15), (.iload_n 1, 1, 0, 0), (.iaload, 1, 0, 0), (.iadd, 1, 0, 0), (.if_icmp .ge 132, 3, 0, 0)] (by decide +kernel) (Nat.le_refl _) (Nat.le_refl _) (fun K R hK hR => ?_)
          simp only [rw_b24, ↓rx_aload_n0, ↓rx_bipush, ↓rx_getfield, ↓rx_iadd, ↓rx_iaload, ↓rx_if_icmp_ge, ↓rx_iload, ↓rx_iload_n1, ↓rx_imul, ↓rx_nil, ↓ry_i2, ↓ry_iau, ↓ry_li0s, ↓ry_li0z, ↓ry_lr0s, ↓ry_lr0z, ↓ry_obu, ↓ry_r1, ↓ry_ri, true_and, re_a15, ↓re_F15, ↓re_i15, ↓re_ob, e15, u2, rz_set, rz_nol, rz_clr, List.set_cons_zero, List.set_cons_succ, rz_tr, Nat.reduceAdd, Int.reduceAdd, Int.reduceToNat, Int.reduceSub, Int.reduceNeg, Int.cast_ofNat_Int]
          try simp (disch := omega) only [e15, u2, pk_us, pk_un, va_up_self, va_up_ne, nI_add, pk_mul, nI_clamp, vp_inT, nI_ltI, nI_leI, nI_eqI, pk_sub, true_and, and_true]
          refine ⟨fun q9 => by omega, fun q9 => hK _ _ _ _ ?_⟩
          refine rz_blk' [(.bipush 24, 2, 0, 0), (.iload_n 2, 1, 0, 0), (.imul, 1, 0, 0), (.istore 5, 2, 0, 0)] (by decide +kernel) (Nat.le_refl _) (Nat.le_refl _) (fun K R hK hR => ?_)
          simp only [rw_b24, ↓rx_bipush, ↓rx_iload_n2, ↓rx_imul, ↓rx_istore, ↓rx_nil, ↓ry_i1, ↓ry_i2, ↓ry_li0s, ↓ry_li0z, e15, u2, rz_set, rz_nol, rz_clr, List.set_cons_zero, List.set_cons_succ, rz_tr, Nat.reduceAdd, Int.reduceAdd, Int.reduceToNat, Int.reduceSub, Int.reduceNeg, Int.cast_ofNat_Int]
          try simp (disch := omega) only [e15, u2, pk_us, pk_un, va_up_self, va_up_ne, nI_add, pk_mul, nI_clamp, vp_inT, nI_ltI, nI_leI, nI_eqI, pk_sub, true_and, and_true]
          refine hK _ _ _ _ ?_
          exact fl T2.2.1.length 0 A1 c b (by omega) kf kc ks kl k1 (fun hb2 => ⟨(k0 hb2).1, fun i hi k hk hie => (k0 hb2).2 i hi k hk (by omega)⟩)
      refine rz_blk' [(.iconst 0, 1, 0, 0), (.istore_n 3, 1, 0, 0)] (by decide +kernel) (Nat.le_refl _) (Nat.le_refl _) (fun K R hK hR => ?_)
      simp only [rw_c0, ↓rx_iconst, ↓rx_istore_n3, ↓rx_nil, ↓ry_i1, rz_set, rz_nol, rz_clr, List.set_cons_zero, List.set_cons_succ, rz_tr, Nat.reduceAdd, Int.reduceAdd, Int.reduceToNat, Int.reduceSub, Int.reduceNeg, Int.cast_ofNat_Int]
      try simp (disch := omega) only [pk_us, pk_un, va_up_self, va_up_ne, nI_add, pk_mul, nI_clamp, vp_inT, nI_ltI, nI_leI, nI_eqI, pk_sub, true_and, and_true]
      refine hK _ _ _ _ ?_
      refine rz_blk' [(.bipush 24, 2, 0, 0), (.iload_n 1, 1, 0, 0), (.imul, 1, 0, 0), (.istore 4, 2, 0, 0)] (by decide +kernel) (Nat.le_refl _) (Nat.le_refl _) (fun K R hK hR => ?_)
      simp only [rw_b24, ↓rx_bipush, ↓rx_iload_n1, ↓rx_imul, ↓rx_istore, ↓rx_nil, ↓ry_i1, ↓ry_i2, ↓ry_li0s, ↓ry_li0z, rz_set, rz_nol, rz_clr, List.set_cons_zero, List.set_cons_succ, rz_tr, Nat.reduceAdd, Int.reduceAdd, Int.reduceToNat, Int.reduceSub, Int.reduceNeg, Int.cast_ofNat_Int]
      try simp (disch := omega) only [pk_us, pk_un, va_up_self, va_up_ne, nI_add, pk_mul, nI_clamp, vp_inT, nI_ltI, nI_leI, nI_eqI, pk_sub, true_and, and_true]
      refine hK _ _ _ _ ?_
      exact el T1.2.1.length 0 A0 c0 false _ (by omega) hf hc (fun _ _ q => q) hl (fun q => by cases q) (fun _ => ⟨fun _ _ => rfl, fun i _ k _ hi => absurd hi (Nat.not_lt_zero _)⟩)
  have hos : ∀ {T : mv_T} {q : Nat}, tw T 32 → (os (T.2.2.1 q) < 0) = (T.2.2.1 q = none) := fun hT => os_lt (fun xs hx => by have := (hT.2.2.2.2.1 _ xs hx).1; omega)
  have pl : ∀ (j p : Nat) (A1 : Nat → Nat → Int32) (z4 z5 : Option Value), p + j = 6 → fa [25] A A1 → (∀ i, i < 6 * p → A1 25 i = rz_b (rk_0 T1 T2 i)) → rz_T w d 0 0 m_Mod_findEnds 0 0 2 [some (.ref a), some (.int (nI g)), some (.int (nI hh)), some (.int (nI p)), z4, z5] [] (re_put G a I A1) Q := by
    intro j
    induction j with
    | zero =>
      intro p A1 z4 z5 hpj kf kc
      have hp : p = 6 := by omega
      subst hp
      refine rz_blk' [(.iload_n 3, 1, 0, 0), (.bipush 6, 2, 0, 0), (.if_icmp .ge 71, 3, 0, 0)] (by decide +kernel) (Nat.le_refl _) (Nat.le_refl _) (fun K R hK hR => ?_)
      simp only [rw_b6, ↓rx_bipush, ↓rx_if_icmp_ge, ↓rx_iload_n3, ↓rx_nil, ↓ry_i2, ↓ry_li0s, ↓ry_li0z, rz_set, rz_nol, rz_clr, List.set_cons_zero, List.set_cons_succ, rz_tr, Nat.reduceAdd, Int.reduceAdd, Int.reduceToNat, Int.reduceSub, Int.reduceNeg, Int.cast_ofNat_Int]
      try simp (disch := omega) only [pk_us, pk_un, va_up_self, va_up_ne, nI_add, pk_mul, nI_clamp, vp_inT, nI_ltI, nI_leI, nI_eqI, pk_sub, true_and, and_true]
      refine ⟨fun q10 => hK _ _ _ _ ?_, fun q10 => by omega⟩
      refine rz_blk' [(.iconst 1, 1, 0, 0), (.istore_n 3, 1, 0, 0)] (by decide +kernel) (Nat.le_refl _) (Nat.le_refl _) (fun K R hK hR => ?_)
      simp only [rw_c1, ↓rx_iconst, ↓rx_istore_n3, ↓rx_nil, ↓ry_i1, rz_set, rz_nol, rz_clr, List.set_cons_zero, List.set_cons_succ, rz_tr, Nat.reduceAdd, Int.reduceAdd, Int.reduceToNat, Int.reduceSub, Int.reduceNeg, Int.cast_ofNat_Int]
      try simp (disch := omega) only [pk_us, pk_un, va_up_self, va_up_ne, nI_add, pk_mul, nI_clamp, vp_inT, nI_ltI, nI_leI, nI_eqI, pk_sub, true_and, and_true]
      refine hK _ _ _ _ ?_
      refine rz_blk' [(.iload_n 3, 1, 0, 0), (.ifCond .eq 159, 3, 0, 0)] (by decide +kernel) (Nat.le_refl _) (Nat.le_refl _) (fun K R hK hR => ?_)
      simp only [↓rx_ifCond_eq, ↓rx_iload_n3, ↓rx_nil, ↓ry_i1, ↓ry_li0s, ↓ry_li0z, rz_set, rz_nol, rz_clr, List.set_cons_zero, List.set_cons_succ, rz_tr, Nat.reduceAdd, Int.reduceAdd, Int.reduceToNat, Int.reduceSub, Int.reduceNeg, Int.cast_ofNat_Int]
      try simp (disch := omega) only [pk_us, pk_un, va_up_self, va_up_ne, nI_add, pk_mul, nI_clamp, vp_inT, nI_ltI, nI_leI, nI_eqI, pk_sub, true_and, and_true]
      refine ⟨fun q11 => absurd q11 (by decide), fun q11 => hK _ _ _ _ ?_⟩
      refine wl 37 A1 (rk_0 T1 T2) _ _ (by omega) kf kc (fun p q hp hq x y => ?_) (fun P hP i hi hx => ?_)
      · simp only [rk_0]
        rw [show (6 * p + q) / 6 = p by omega, show (6 * p + q) % 6 = q by omega, x, y]; rfl
      · simp only [rk_0, Bool.and_eq_true] at hx
        have := hP.1 (i / 6) (i % 6) (by omega) (by omega) hx.1 hx.2
        rwa [show 6 * (i / 6) + i % 6 = i by omega] at this
    | succ j ihp =>
      intro p A1 z4 z5 hpj kf kc
      have ql : ∀ (j q : Nat) (A1 : Nat → Nat → Int32), q + j = 6 → fa [25] A A1 → (∀ i, i < 6 * p + q → A1 25 i = rz_b (rk_0 T1 T2 i)) → rz_T w d 0 0 m_Mod_findEnds 0 0 11 [some (.ref a), some (.int (nI g)), some (.int (nI hh)), some (.int (nI p)), some (.int (nI q)), z5] [] (re_put G a I A1) Q := by
        clear kf kc
        clear A1
        intro j
        induction j with
        | zero =>
          intro q A1 hqj kf kc
          refine rz_blk' [(.iload 4, 2, 0, 0), (.bipush 6, 2, 0, 0), (.if_icmp .ge 55, 3, 0, 0)] (by decide +kernel) (Nat.le_refl _) (Nat.le_refl _) (fun K R hK hR => ?_)
          simp only [rw_b6, ↓rx_bipush, ↓rx_if_icmp_ge, ↓rx_iload, ↓rx_nil, ↓ry_i2, ↓ry_li0s, ↓ry_li0z, rz_set, rz_nol, rz_clr, List.set_cons_zero, List.set_cons_succ, rz_tr, Nat.reduceAdd, Int.reduceAdd, Int.reduceToNat, Int.reduceSub, Int.reduceNeg, Int.cast_ofNat_Int]
          try simp (disch := omega) only [pk_us, pk_un, va_up_self, va_up_ne, nI_add, pk_mul, nI_clamp, vp_inT, nI_ltI, nI_leI, nI_eqI, pk_sub, true_and, and_true]
          refine ⟨fun q12 => hK _ _ _ _ ?_, fun q12 => by omega⟩
          refine rz_blk' [(.iinc 3 1, 3, 0, 0)] (by decide +kernel) (Nat.le_refl _) (Nat.le_refl _) (fun K R hK hR => ?_)
          simp only [rw_c1, ↓rx_iinc, ↓rx_nil, ↓ry_li0s, ↓ry_li0z, rz_set, rz_nol, rz_clr, List.set_cons_zero, List.set_cons_succ, rz_tr, Nat.reduceAdd, Int.reduceAdd, Int.reduceToNat, Int.reduceSub, Int.reduceNeg, Int.cast_ofNat_Int]
          try simp (disch := omega) only [pk_us, pk_un, va_up_self, va_up_ne, nI_add, pk_mul, nI_clamp, vp_inT, nI_ltI, nI_leI, nI_eqI, pk_sub, true_and, and_true]
          refine hK _ _ _ _ ?_
          refine rz_blk' [(.goto (-71), 3, 0, 0)] (by decide +kernel) (Nat.le_refl _) (Nat.le_refl _) (fun K R hK hR => ?_)
          simp only [↓rx_goto, ↓rx_nil, rz_set, rz_nol, rz_clr, List.set_cons_zero, List.set_cons_succ, rz_tr, Nat.reduceAdd, Int.reduceAdd, Int.reduceToNat, Int.reduceSub, Int.reduceNeg, Int.cast_ofNat_Int]
          try simp (disch := omega) only [pk_us, pk_un, va_up_self, va_up_ne, nI_add, pk_mul, nI_clamp, vp_inT, nI_ltI, nI_leI, nI_eqI, pk_sub, true_and, and_true]
          refine hK _ _ _ _ ?_
          exact ihp (p + 1) A1 _ _ (by omega) kf (fun i hi => kc i (by omega))
        | succ j ihq =>
          intro q A1 hqj kf kc
          have e21 := kf 21 rfl
          have o1 := (u4 p (by omega)).1
          have o2 := (v4 q (by omega)).1
          have s1 := hos (q := p) w1
          have s2 := hos (q := q) w2
          have hst : ∀ b : Bool, b = rk_0 T1 T2 (6 * p + q) → rz_T w d 0 0 m_Mod_findEnds 0 0 11 [some (.ref a), some (.int (nI g)), some (.int (nI hh)), some (.int (nI p)), some (.int (nI (q + 1))), z5] [] (re_put G a I (va_up A1 25 (upd (A1 25) (6 * p + q) (rz_b b)))) Q := by
            intro b hb
            refine ihq (q + 1) _ (by omega) (kf.u rfl) (fun i hi => ?_)
            rw [va_up_self]
            by_cases ci : i = 6 * p + q
            · subst ci; rw [pk_us, hb]
            · rw [pk_un ci]; exact kc i (by omega)
          have h6 : rk_0 T1 T2 (6 * p + q) = ((T1.2.2.1 p).isSome && (T2.2.2.1 q).isSome) := by
            simp only [rk_0]
            rw [show (6 * p + q) / 6 = p by omega, show (6 * p + q) % 6 = q by omega]
          rw [h6] at hst
          refine rz_blk' [(.iload 4, 2, 0, 0), (.bipush 6, 2, 0, 0), (.if_icmp .ge 55, 3, 0, 0)] (by decide +kernel) (Nat.le_refl _) (Nat.le_refl _) (fun K R hK hR => ?_)
          simp only [rw_b6, ↓rx_bipush, ↓rx_if_icmp_ge, ↓rx_iload, ↓rx_nil, ↓ry_i2, ↓ry_li0s, ↓ry_li0z, e21, o1, o2, re_a25, ↓re_i25, rz_set, rz_nol, rz_clr, List.set_cons_zero, List.set_cons_succ, rz_tr, Nat.reduceAdd, Int.reduceAdd, Int.reduceToNat, Int.reduceSub, Int.reduceNeg, Int.cast_ofNat_Int]
          try simp (disch := omega) only [e21, o1, o2, s1, s2, nar_0, nar_1, pk_us, pk_un, va_up_self, va_up_ne, nI_add, pk_mul, nI_clamp, vp_inT, nI_ltI, nI_leI, nI_eqI, pk_sub, true_and, and_true]
          refine ⟨fun q13 => by omega, fun q13 => hK _ _ _ _ ?_⟩
          refine rz_blk' [(.aload_n 0, 1, 0, 0), (.getfield 80, 3, 10, 25), (.bipush 6, 2, 0, 0), (.iload_n 3, 1, 0, 0), (.imul, 1, 0, 0), (.iload 4, 2, 0, 0), (.iadd, 1, 0, 0), (.aload_n 0, 1, 0, 0), (.getfield 68, 3, 10, 21), (.bipush 6, 2, 0, 0), (.iload_n 1, 1, 0, 0), (.imul, 1, 0, 0), (.iload_n 3, 1, 0, 0), (.iadd, 1, 0, 0), (.iaload, 1, 0, 0), (.ifCond .lt 22, 3, 0, 0)] (by decide +kernel) (Nat.le_refl _) (Nat.le_refl _) (fun K R hK hR => ?_)
          simp only [rw_b6, ↓rx_aload_n0, ↓rx_bipush, ↓rx_getfield, ↓rx_iadd, ↓rx_iaload, ↓rx_ifCond_lt, ↓rx_iload, ↓rx_iload_n1, ↓rx_iload_n3, ↓rx_imul, ↓rx_nil, ↓ry_i1, ↓ry_i2, ↓ry_iau, ↓ry_li0s, ↓ry_li0z, ↓ry_lr0s, ↓ry_lr0z, ↓ry_obu, ↓ry_r1, ↓ry_ri, true_and, re_a21, re_a25, ↓re_F21, ↓re_F25, ↓re_i21, ↓re_i25, ↓re_ob, e21, o1, o2, re_a25, ↓re_i25, rz_set, rz_nol, rz_clr, List.set_cons_zero, List.set_cons_succ, rz_tr, Nat.reduceAdd, Int.reduceAdd, Int.reduceToNat, Int.reduceSub, Int.reduceNeg, Int.cast_ofNat_Int]
          try simp (disch := omega) only [e21, o1, o2, s1, s2, nar_0, nar_1, pk_us, pk_un, va_up_self, va_up_ne, nI_add, pk_mul, nI_clamp, vp_inT, nI_ltI, nI_leI, nI_eqI, pk_sub, true_and, and_true]
          refine ⟨fun q14 => hK _ _ _ _ ?_, fun q14 => hK _ _ _ _ ?_⟩
          · -- 40 taken
            refine rz_blk' [(.iconst 0, 1, 0, 0), (.bastore, 1, 0, 0)] (by decide +kernel) (Nat.le_refl _) (Nat.le_refl _) (fun K R hK hR => ?_)
            simp only [Nat.reduceEqDiff, false_or, or_false, or_true, reduceIte, rw_c0, ↓rx_bastore, ↓rx_iconst, ↓rx_nil, ↓ry_iau, ↓ry_rii, true_and, true_or, e21, o1, o2, re_a25, ↓re_i25, rz_set, rz_nol, rz_clr, List.set_cons_zero, List.set_cons_succ, rz_tr, Nat.reduceAdd, Int.reduceAdd, Int.reduceToNat, Int.reduceSub, Int.reduceNeg, Int.cast_ofNat_Int]
            try simp (disch := omega) only [e21, o1, o2, s1, s2, nar_0, nar_1, pk_us, pk_un, va_up_self, va_up_ne, nI_add, pk_mul, nI_clamp, vp_inT, nI_ltI, nI_leI, nI_eqI, pk_sub, true_and, and_true]
            refine hK _ _ _ _ ?_
            refine rz_blk' [(.iinc 4 1, 3, 0, 0)] (by decide +kernel) (Nat.le_refl _) (Nat.le_refl _) (fun K R hK hR => ?_)
            simp only [rw_c1, ↓rx_iinc, ↓rx_nil, ↓ry_li0s, ↓ry_li0z, e21, o1, o2, re_a25, ↓re_i25, rz_set, rz_nol, rz_clr, List.set_cons_zero, List.set_cons_succ, rz_tr, Nat.reduceAdd, Int.reduceAdd, Int.reduceToNat, Int.reduceSub, Int.reduceNeg, Int.cast_ofNat_Int]
            try simp (disch := omega) only [e21, o1, o2, s1, s2, nar_0, nar_1, pk_us, pk_un, va_up_self, va_up_ne, nI_add, pk_mul, nI_clamp, vp_inT, nI_ltI, nI_leI, nI_eqI, pk_sub, true_and, and_true]
            refine hK _ _ _ _ ?_
            refine rz_blk' [(.goto (-56), 3, 0, 0)] (by decide +kernel) (Nat.le_refl _) (Nat.le_refl _) (fun K R hK hR => ?_)
            simp only [↓rx_goto, ↓rx_nil, e21, o1, o2, re_a25, ↓re_i25, rz_set, rz_nol, rz_clr, List.set_cons_zero, List.set_cons_succ, rz_tr, Nat.reduceAdd, Int.reduceAdd, Int.reduceToNat, Int.reduceSub, Int.reduceNeg, Int.cast_ofNat_Int]
            try simp (disch := omega) only [e21, o1, o2, s1, s2, nar_0, nar_1, pk_us, pk_un, va_up_self, va_up_ne, nI_add, pk_mul, nI_clamp, vp_inT, nI_ltI, nI_leI, nI_eqI, pk_sub, true_and, and_true]
            refine hK _ _ _ _ ?_
            first
              | exact hst true (by rw [Option.isSome_iff_ne_none.mpr (by assumption), Option.isSome_iff_ne_none.mpr (by assumption)]; rfl)
              | exact hst false (by rw [q14]; simp)
          · -- 40 not taken
            refine rz_blk' [(.aload_n 0, 1, 0, 0), (.getfield 68, 3, 10, 21), (.bipush 6, 2, 0, 0), (.iload_n 2, 1, 0, 0), (.imul, 1, 0, 0), (.iload 4, 2, 0, 0), (.iadd, 1, 0, 0), (.iaload, 1, 0, 0), (.ifCond .lt 7, 3, 0, 0)] (by decide +kernel) (Nat.le_refl _) (Nat.le_refl _) (fun K R hK hR => ?_)
            simp only [rw_b6, ↓rx_aload_n0, ↓rx_bipush, ↓rx_getfield, ↓rx_iadd, ↓rx_iaload, ↓rx_ifCond_lt, ↓rx_iload, ↓rx_iload_n2, ↓rx_imul, ↓rx_nil, ↓ry_i1, ↓ry_i2, ↓ry_iau, ↓ry_li0s, ↓ry_li0z, ↓ry_lr0s, ↓ry_lr0z, ↓ry_obu, ↓ry_r1, ↓ry_ri, true_and, re_a21, ↓re_F21, ↓re_i21, ↓re_ob, e21, o1, o2, re_a25, ↓re_i25, rz_set, rz_nol, rz_clr, List.set_cons_zero, List.set_cons_succ, rz_tr, Nat.reduceAdd, Int.reduceAdd, Int.reduceToNat, Int.reduceSub, Int.reduceNeg, Int.cast_ofNat_Int]
            try simp (disch := omega) only [e21, o1, o2, s1, s2, nar_0, nar_1, pk_us, pk_un, va_up_self, va_up_ne, nI_add, pk_mul, nI_clamp, vp_inT, nI_ltI, nI_leI, nI_eqI, pk_sub, true_and, and_true]
            refine ⟨fun q15 => hK _ _ _ _ ?_, fun q15 => hK _ _ _ _ ?_⟩
            · -- 55 taken
              refine rz_blk' [(.iconst 0, 1, 0, 0), (.bastore, 1, 0, 0)] (by decide +kernel) (Nat.le_refl _) (Nat.le_refl _) (fun K R hK hR => ?_)
              simp only [Nat.reduceEqDiff, false_or, or_false, or_true, reduceIte, rw_c0, ↓rx_bastore, ↓rx_iconst, ↓rx_nil, ↓ry_iau, ↓ry_rii, true_and, true_or, e21, o1, o2, re_a25, ↓re_i25, rz_set, rz_nol, rz_clr, List.set_cons_zero, List.set_cons_succ, rz_tr, Nat.reduceAdd, Int.reduceAdd, Int.reduceToNat, Int.reduceSub, Int.reduceNeg, Int.cast_ofNat_Int]
              try simp (disch := omega) only [e21, o1, o2, s1, s2, nar_0, nar_1, pk_us, pk_un, va_up_self, va_up_ne, nI_add, pk_mul, nI_clamp, vp_inT, nI_ltI, nI_leI, nI_eqI, pk_sub, true_and, and_true]
              refine hK _ _ _ _ ?_
              refine rz_blk' [(.iinc 4 1, 3, 0, 0)] (by decide +kernel) (Nat.le_refl _) (Nat.le_refl _) (fun K R hK hR => ?_)
              simp only [rw_c1, ↓rx_iinc, ↓rx_nil, ↓ry_li0s, ↓ry_li0z, e21, o1, o2, re_a25, ↓re_i25, rz_set, rz_nol, rz_clr, List.set_cons_zero, List.set_cons_succ, rz_tr, Nat.reduceAdd, Int.reduceAdd, Int.reduceToNat, Int.reduceSub, Int.reduceNeg, Int.cast_ofNat_Int]
              try simp (disch := omega) only [e21, o1, o2, s1, s2, nar_0, nar_1, pk_us, pk_un, va_up_self, va_up_ne, nI_add, pk_mul, nI_clamp, vp_inT, nI_ltI, nI_leI, nI_eqI, pk_sub, true_and, and_true]
              refine hK _ _ _ _ ?_
              refine rz_blk' [(.goto (-56), 3, 0, 0)] (by decide +kernel) (Nat.le_refl _) (Nat.le_refl _) (fun K R hK hR => ?_)
              simp only [↓rx_goto, ↓rx_nil, e21, o1, o2, re_a25, ↓re_i25, rz_set, rz_nol, rz_clr, List.set_cons_zero, List.set_cons_succ, rz_tr, Nat.reduceAdd, Int.reduceAdd, Int.reduceToNat, Int.reduceSub, Int.reduceNeg, Int.cast_ofNat_Int]
              try simp (disch := omega) only [e21, o1, o2, s1, s2, nar_0, nar_1, pk_us, pk_un, va_up_self, va_up_ne, nI_add, pk_mul, nI_clamp, vp_inT, nI_ltI, nI_leI, nI_eqI, pk_sub, true_and, and_true]
              refine hK _ _ _ _ ?_
              first
                | exact hst true (by rw [Option.isSome_iff_ne_none.mpr (by assumption), Option.isSome_iff_ne_none.mpr (by assumption)]; rfl)
                | exact hst false (by rw [q15]; simp)
            · -- 55 not taken
              refine rz_blk' [(.iconst 1, 1, 0, 0), (.goto 4, 3, 0, 0)] (by decide +kernel) (Nat.le_refl _) (Nat.le_refl _) (fun K R hK hR => ?_)
              simp only [rw_c1, ↓rx_goto, ↓rx_iconst, ↓rx_nil, e21, o1, o2, re_a25, ↓re_i25, rz_set, rz_nol, rz_clr, List.set_cons_zero, List.set_cons_succ, rz_tr, Nat.reduceAdd, Int.reduceAdd, Int.reduceToNat, Int.reduceSub, Int.reduceNeg, Int.cast_ofNat_Int]
              try simp (disch := omega) only [e21, o1, o2, s1, s2, nar_0, nar_1, pk_us, pk_un, va_up_self, va_up_ne, nI_add, pk_mul, nI_clamp, vp_inT, nI_ltI, nI_leI, nI_eqI, pk_sub, true_and, and_true]
              refine hK _ _ _ _ ?_
              refine rz_blk' [(.bastore, 1, 0, 0)] (by decide +kernel) (Nat.le_refl _) (Nat.le_refl _) (fun K R hK hR => ?_)
              simp only [Nat.reduceEqDiff, false_or, or_false, or_true, reduceIte, ↓rx_bastore, ↓rx_nil, ↓ry_iau, ↓ry_rii, true_and, true_or, e21, o1, o2, re_a25, ↓re_i25, rz_set, rz_nol, rz_clr, List.set_cons_zero, List.set_cons_succ, rz_tr, Nat.reduceAdd, Int.reduceAdd, Int.reduceToNat, Int.reduceSub, Int.reduceNeg, Int.cast_ofNat_Int]
              try simp (disch := omega) only [e21, o1, o2, s1, s2, nar_0, nar_1, pk_us, pk_un, va_up_self, va_up_ne, nI_add, pk_mul, nI_clamp, vp_inT, nI_ltI, nI_leI, nI_eqI, pk_sub, true_and, and_true]
              refine hK _ _ _ _ ?_
              refine rz_blk' [(.iinc 4 1, 3, 0, 0)] (by decide +kernel) (Nat.le_refl _) (Nat.le_refl _) (fun K R hK hR => ?_)
              simp only [rw_c1, ↓rx_iinc, ↓rx_nil, ↓ry_li0s, ↓ry_li0z, e21, o1, o2, re_a25, ↓re_i25, rz_set, rz_nol, rz_clr, List.set_cons_zero, List.set_cons_succ, rz_tr, Nat.reduceAdd, Int.reduceAdd, Int.reduceToNat, Int.reduceSub, Int.reduceNeg, Int.cast_ofNat_Int]
              try simp (disch := omega) only [e21, o1, o2, s1, s2, nar_0, nar_1, pk_us, pk_un, va_up_self, va_up_ne, nI_add, pk_mul, nI_clamp, vp_inT, nI_ltI, nI_leI, nI_eqI, pk_sub, true_and, and_true]
              refine hK _ _ _ _ ?_
              refine rz_blk' [(.goto (-56), 3, 0, 0)] (by decide +kernel) (Nat.le_refl _) (Nat.le_refl _) (fun K R hK hR => ?_)
              simp only [↓rx_goto, ↓rx_nil, e21, o1, o2, re_a25, ↓re_i25, rz_set, rz_nol, rz_clr, List.set_cons_zero, List.set_cons_succ, rz_tr, Nat.reduceAdd, Int.reduceAdd, Int.reduceToNat, Int.reduceSub, Int.reduceNeg, Int.cast_ofNat_Int]
              try simp (disch := omega) only [e21, o1, o2, s1, s2, nar_0, nar_1, pk_us, pk_un, va_up_self, va_up_ne, nI_add, pk_mul, nI_clamp, vp_inT, nI_ltI, nI_leI, nI_eqI, pk_sub, true_and, and_true]
              refine hK _ _ _ _ ?_
              first
                | exact hst true (by rw [Option.isSome_iff_ne_none.mpr (by assumption), Option.isSome_iff_ne_none.mpr (by assumption)]; rfl)
                | exact hst false (by rw [q15]; simp)
      refine rz_blk' [(.iload_n 3, 1, 0, 0), (.bipush 6, 2, 0, 0), (.if_icmp .ge 71, 3, 0, 0)] (by decide +kernel) (Nat.le_refl _) (Nat.le_refl _) (fun K R hK hR => ?_)
      simp only [rw_b6, ↓rx_bipush, ↓rx_if_icmp_ge, ↓rx_iload_n3, ↓rx_nil, ↓ry_i2, ↓ry_li0s, ↓ry_li0z, rz_set, rz_nol, rz_clr, List.set_cons_zero, List.set_cons_succ, rz_tr, Nat.reduceAdd, Int.reduceAdd, Int.reduceToNat, Int.reduceSub, Int.reduceNeg, Int.cast_ofNat_Int]
      try simp (disch := omega) only [pk_us, pk_un, va_up_self, va_up_ne, nI_add, pk_mul, nI_clamp, vp_inT, nI_ltI, nI_leI, nI_eqI, pk_sub, true_and, and_true]
      refine ⟨fun q16 => by omega, fun q16 => hK _ _ _ _ ?_⟩
      refine rz_blk' [(.iconst 0, 1, 0, 0), (.istore 4, 2, 0, 0)] (by decide +kernel) (Nat.le_refl _) (Nat.le_refl _) (fun K R hK hR => ?_)
      simp only [rw_c0, ↓rx_iconst, ↓rx_istore, ↓rx_nil, ↓ry_i1, rz_set, rz_nol, rz_clr, List.set_cons_zero, List.set_cons_succ, rz_tr, Nat.reduceAdd, Int.reduceAdd, Int.reduceToNat, Int.reduceSub, Int.reduceNeg, Int.cast_ofNat_Int]
      try simp (disch := omega) only [pk_us, pk_un, va_up_self, va_up_ne, nI_add, pk_mul, nI_clamp, vp_inT, nI_ltI, nI_leI, nI_eqI, pk_sub, true_and, and_true]
      refine hK _ _ _ _ ?_
      exact ql 6 0 A1 rfl kf (fun i hi => kc i (by omega))
  refine rz_enter' [some (.ref a), some (.int (nI g)), some (.int (nI hh)), none, none, none] (by decide +kernel) rfl rfl (Nat.le_of_ble_eq_true rfl) rfl ?_
  refine rz_blk' [(.iconst 0, 1, 0, 0), (.istore_n 3, 1, 0, 0)] (by decide +kernel) (Nat.le_refl _) (Nat.le_refl _) (fun K R hK hR => ?_)
  simp only [rw_c0, ↓rx_iconst, ↓rx_istore_n3, ↓rx_nil, ↓ry_i1, rz_set, rz_nol, rz_clr, List.set_cons_zero, List.set_cons_succ, rz_tr, Nat.reduceAdd, Int.reduceAdd, Int.reduceToNat, Int.reduceSub, Int.reduceNeg, Int.cast_ofNat_Int]
  try simp (disch := omega) only [pk_us, pk_un, va_up_self, va_up_ne, nI_add, pk_mul, nI_clamp, vp_inT, nI_ltI, nI_leI, nI_eqI, pk_sub, true_and, and_true]
  refine hK _ _ _ _ ?_
  exact pl 6 0 A _ _ rfl fa.rf (fun i hi => absurd hi (by omega))
