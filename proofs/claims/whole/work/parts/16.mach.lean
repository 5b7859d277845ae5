/-! WriterDesk$Machine.settle -/
def so_ok (g : Nat → Int32) (l : List Nat) : Prop := ∀ i (h : i < l.length), g i = nI l[i]
def mv_set (I : Nat → Int32) (A : Nat → Nat → Int32) (m : mv_T) (cl : Nat) : Prop :=
  I 3 = nI 1 ∧ I 4 = nI (mv_al m cl) ∧ so_ok (A 3) (mv_so m (mv_al m cl) 18) ∧ ∀ p, p ≤ 18 → A 4 p = nI (mv_so m (mv_al m cl) p).length
theorem mv_is_keep {I I' : Nat → Int32} {A A' : Nat → Nat → Int32} {X : Nat → List Nat} {m : mv_T} {cl : Nat} (h : mv_is I A X m cl) (hI : ∀ k, k < 3 → I' k = I k) (hA : ∀ k, k < 3 → A' k = A k) : mv_is I' A' X m cl := by
  simp only [mv_is] at h ⊢
  rw [hI 0 (by decide), hI 1 (by decide), hI 2 (by decide), hA 0 (by decide), hA 1 (by decide), hA 2 (by decide)]
  exact h
theorem so_ok_push {g : Nat → Int32} {l : List Nat} {e : Nat} (h : so_ok g l) : so_ok (upd g l.length (nI e)) (l ++ [e]) := by
  intro i hi
  by_cases q : i < l.length
  · rw [List.getElem_append_left q, pk_un (by omega)]; exact h i q
  · have : i = l.length := by simp at hi; omega
    subst this
    simp only [List.getElem_concat_length]
    rw [pk_us]
set_option maxRecDepth 100000 in
set_option maxHeartbeats 4000000 in
theorem mc_settle_i {w : rz_w} {d : Nat} {G : rz_G} {a : Nat} {I : Nat → Int32} {A : Nat → Nat → Int32} {J : Nat → Nat → Int64} {X : Nat → List Nat} {P : Nat → Nat} {m : mv_T} {cl al p : Nat} (hm : mv_is I A X m cl) (hI4 : I 4 = nI al) (hal : al < 64) (hp : p < 18) (hb : A 4 p = nI (mv_so m al p).length) {Q : Option Value → rz_G → Prop}
    (hk : ∀ (so : Nat → Int32) (z : Option Value), so_ok so (mv_so m al (p + 1)) → rz_T w (d + 2) 0 0 m_Mach_settle 0 0 106 [some (.ref a), some (.int (nI (mv_so m al (p + 1)).length)), some (.int (nI p)), z] [] (mc_put G a I (va_up A 3 so) J X P) Q) :
    ∀ (n e : Nat) (so : Nat → Int32), m.2.1.length + 1 ≤ e + n → e ≤ m.2.1.length → so_ok so (mv_so m al p ++ mv_pk m al p e) → rz_T w (d + 2) 0 0 m_Mach_settle 0 0 40 [some (.ref a), some (.int (nI (mv_so m al p ++ mv_pk m al p e).length)), some (.int (nI p)), some (.int (nI e))] [] (mc_put G a I (va_up A 3 so) J X P) Q := by
  intro n
  induction n with
  | zero => intro e so h1 h2; omega
  | succ n ih =>
    intro e so hn he hso
    have hm' : mv_is I (va_up A 3 so) X m cl := mv_is_keep hm (fun _ _ => rfl) (fun k hk => va_up_ne _ _ (by omega))
    have hb' : va_up A 3 so 4 p = nI (mv_so m al p).length := by rw [va_up_ne _ _ (by decide)]; exact hb
    obtain ⟨m0, m1, m2, m3, m4, m5, -⟩ := id hm'
    have hlp := mv_so_le (m := m) (al := al) p
    refine rz_blk' [(.iload_n 3, 1, 0, 0), (.aload_n 0, 1, 0, 0), (.getfield 15, 3, 2, 1), (.if_icmp .ge 61, 3, 0, 0), (.aload_n 0, 1, 0, 0), (.getfield 18, 3, 2, 2), (.iload_n 3, 1, 0, 0), (.iaload, 1, 0, 0), (.iconst 3, 1, 0, 0), (.imul, 1, 0, 0), (.aload_n 0, 1, 0, 0), (.getfield 22, 3, 2, 3), (.iload_n 3, 1, 0, 0), (.iaload, 1, 0, 0), (.iadd, 1, 0, 0), (.iload_n 2, 1, 0, 0), (.if_icmp .ne 36, 3, 0, 0)] (by decide +kernel) (Nat.le_refl _) (Nat.le_refl _) (fun K R hK hR => ?_)
    simp only [rw_c3, ↓rx_aload_n0, ↓rx_getfield, ↓rx_iadd, ↓rx_iaload, ↓rx_iconst, ↓rx_if_icmp_ge, ↓rx_if_icmp_ne, ↓rx_iload_n2, ↓rx_iload_n3, ↓rx_imul, ↓rx_nil, ↓ry_fvs, ↓ry_fvz, ↓ry_i2, ↓ry_iau, ↓ry_li0s, ↓ry_li0z, ↓ry_lr0s, ↓ry_lr0z, ↓ry_obu, ↓ry_r1, ↓ry_ri, true_and, ↓mc_ob, ↓mc_i1, ↓mc_n1, ↓mc_i2, ↓mc_n2, ↓mc_i3, ↓mc_n3, ↓mc_r4, ↓mc_r7, ↓mc_i8, ↓mc_n8, ↓mc_i9, ↓mc_n9, m3, rz_set, rz_nol, rz_clr, List.set_cons_zero, List.set_cons_succ, rz_tr, Nat.reduceAdd, Int.reduceAdd, Int.reduceToNat, Int.reduceSub, Int.reduceNeg, Int.cast_ofNat_Int]
    refine ⟨fun c1 => hK _ _ _ _ ?_, fun c1 => ?_⟩
    · rw [nI_leI (by omega) (by omega)] at c1
      have he2 : e = m.2.1.length := by omega
      subst he2
      exact hk so _ hso
    rw [nI_leI (by omega) (by omega)] at c1
    have hel : e < m.2.1.length := by omega
    obtain ⟨e0, e1, e2, e3, e4, e5, e6⟩ := m5 e hel
    have hge := mv_e_get hel
    have hskip : mv_pk m al p (e + 1) = mv_pk m al p e → rz_T w (d + 2) 0 0 m_Mach_settle 0 0 100 [some (.ref a), some (.int (nI (mv_so m al p ++ mv_pk m al p e).length)), some (.int (nI p)), some (.int (nI e))] [] (mc_put G a I (va_up A 3 so) J X P) Q := by
      intro hs
      refine rz_blk' [(.iinc 3 1, 3, 0, 0), (.goto (-63), 3, 0, 0)] (by decide +kernel) (Nat.le_refl _) (Nat.le_refl _) (fun K R hK hR => ?_)
      simp only [rw_c1, ↓rx_goto, ↓rx_iinc, ↓rx_nil, ↓ry_li0s, ↓ry_li0z, ↓mc_ob, ↓mc_i1, ↓mc_n1, ↓mc_i2, ↓mc_n2, ↓mc_i3, ↓mc_n3, ↓mc_r4, ↓mc_r7, ↓mc_i8, ↓mc_n8, ↓mc_i9, ↓mc_n9, nI_add, rz_set, rz_nol, rz_clr, List.set_cons_zero, List.set_cons_succ, rz_tr, Nat.reduceAdd, Int.reduceAdd, Int.reduceToNat, Int.reduceSub, Int.reduceNeg, Int.cast_ofNat_Int]
      have := ih (e + 1) so (by omega) (by omega) (by rw [hs]; exact hso)
      rw [hs] at this
      exact hK _ _ _ _ this
    rw [nI_clamp (by omega), e0, e1, pk_mul, nI_add, nI_eq (by omega) (by omega)]
    refine ⟨vp_in_nI (by omega) (by decide), vp_in_nI (by omega) (by decide), fun c2 => hK _ _ _ _ (hskip (by simp only [mv_pk]; rw [if_neg (by rw [hge]; exact fun q => c2 q.1)])), fun c2 => hK _ _ _ _ ?_⟩
    have hlt := mv_so_lt (m := m) (al := al) (p := p) (e := e) hel (by rw [hge]; exact c2)

    refine rz_blk' [(.aload_n 0, 1, 0, 0), (.iload_n 3, 1, 0, 0)] (by decide +kernel) (Nat.le_refl _) (Nat.le_refl _) (fun K R hK hR => ?_)
    simp only [↓rx_aload_n0, ↓rx_iload_n3, ↓rx_nil, ↓ry_li0s, ↓ry_li0z, ↓ry_lr0s, ↓ry_lr0z, ↓mc_ob, ↓mc_i1, ↓mc_n1, ↓mc_i2, ↓mc_n2, ↓mc_i3, ↓mc_n3, ↓mc_r4, ↓mc_r7, ↓mc_i8, ↓mc_n8, ↓mc_i9, ↓mc_n9, rz_set, rz_nol, rz_clr, List.set_cons_zero, List.set_cons_succ, rz_tr, Nat.reduceAdd, Int.reduceAdd, Int.reduceToNat, Int.reduceSub, Int.reduceNeg, Int.cast_ofNat_Int]
    refine hK _ _ _ _ ?_
    refine rz_cV (As := [.int (nI e)]) (b := a) (S := []) l_Mach_70 (by decide +kernel) rfl mc_at0 rfl (Nat.le_of_ble_eq_true rfl) (Nat.le_refl _) (Nat.le_refl _) (c_Mach_isAliveEdge hm' hI4 hal hel) (fun r G' hq => ?_)
    obtain ⟨rfl, rfl⟩ := hq
    simp only [Option.toList, List.cons_append, List.nil_append]
    by_cases c3 : mv_ae m al e = true
    · rw [if_pos c3]
      refine rz_blk' [(.ifCond .eq 28, 3, 0, 0), (.aload_n 0, 1, 0, 0), (.iload_n 3, 1, 0, 0), (.aload_n 0, 1, 0, 0), (.getfield 57, 3, 2, 12), (.iload_n 2, 1, 0, 0), (.iaload, 1, 0, 0), (.iload_n 1, 1, 0, 0)] (by decide +kernel) (Nat.le_refl _) (Nat.le_refl _) (fun K R hK hR => ?_)
      simp only [↓rx_aload_n0, ↓rx_getfield, ↓rx_iaload, ↓rx_ifCond_eq, ↓rx_iload_n1, ↓rx_iload_n2, ↓rx_iload_n3, ↓rx_nil, ↓ry_fvs, ↓ry_fvz, ↓ry_i1, ↓ry_iau, ↓ry_li0s, ↓ry_li0z, ↓ry_lr0s, ↓ry_lr0z, ↓ry_obu, ↓ry_r1, ↓ry_ri, true_and, ↓mc_ob, ↓mc_i1, ↓mc_n1, ↓mc_i2, ↓mc_n2, ↓mc_i3, ↓mc_n3, ↓mc_r4, ↓mc_r7, ↓mc_i8, ↓mc_n8, ↓mc_i9, ↓mc_n9, hb', rz_set, rz_nol, rz_clr, List.set_cons_zero, List.set_cons_succ, rz_tr, Nat.reduceAdd, Int.reduceAdd, Int.reduceToNat, Int.reduceSub, Int.reduceNeg, Int.cast_ofNat_Int]
      rw [nI_clamp (by omega), hb']
      refine ⟨fun c4 => absurd c4 (by decide), fun c4 => ⟨vp_in_nI (by omega) (by decide), hK _ _ _ _ ?_⟩⟩
      rw [List.length_append]
      refine rz_cV (As := [.int (nI e), .int (nI (mv_so m al p).length), .int (nI ((mv_so m al p).length + (mv_pk m al p e).length))]) (b := a) (S := []) l_Mach_74 (by decide +kernel) rfl mc_at0 rfl (Nat.le_of_ble_eq_true rfl) (Nat.le_refl _) (Nat.le_refl _) (c_Mach_isListed (acc := mv_pk m al p e) hm' hel (by rw [← List.length_append]; omega) ?_) (fun r G' hq => ?_)
      · intro i hi
        refine ⟨?_, by have := mv_pk_mem (List.getElem_mem hi); omega⟩
        rw [va_up_self, hso _ (by rw [List.length_append]; omega), List.getElem_append_right (by omega)]
        simp only [Nat.add_sub_cancel_left]
      obtain ⟨rfl, rfl⟩ := hq
      simp only [Option.toList, List.cons_append, List.nil_append]
      by_cases c5 : mv_li m (mv_pk m al p e) e = true
      · rw [if_pos c5]
        refine rz_blk' [(.ifCond .ne 13, 3, 0, 0)] (by decide +kernel) (Nat.le_refl _) (Nat.le_refl _) (fun K R hK hR => ?_)
        simp only [↓rx_ifCond_ne, ↓rx_nil, ↓ry_i1, ↓mc_ob, ↓mc_i1, ↓mc_n1, ↓mc_i2, ↓mc_n2, ↓mc_i3, ↓mc_n3, ↓mc_r4, ↓mc_r7, ↓mc_i8, ↓mc_n8, ↓mc_i9, ↓mc_n9, rz_set, rz_nol, rz_clr, List.set_cons_zero, List.set_cons_succ, rz_tr, Nat.reduceAdd, Int.reduceAdd, Int.reduceToNat, Int.reduceSub, Int.reduceNeg, Int.cast_ofNat_Int]
        refine ⟨fun c6 => hK _ _ _ _ ?_, fun c6 => absurd c6 (by decide)⟩
        rw [← List.length_append]
        refine hskip ?_
        simp only [mv_pk]
        rw [if_neg (by rw [c5]; simp)]
      · have c5' : mv_li m (mv_pk m al p e) e = false := by simpa using c5
        rw [if_neg c5]
        refine rz_blk' [(.ifCond .ne 13, 3, 0, 0), (.aload_n 0, 1, 0, 0), (.getfield 54, 3, 2, 11), (.iload_n 1, 1, 0, 0), (.iload_n 3, 1, 0, 0), (.iastore, 1, 0, 0)] (by decide +kernel) (Nat.le_refl _) (Nat.le_refl _) (fun K R hK hR => ?_)
        simp only [↓rx_aload_n0, ↓rx_getfield, ↓rx_iastore, ↓rx_ifCond_ne, ↓rx_iload_n1, ↓rx_iload_n3, ↓rx_nil, ↓ry_fvs, ↓ry_fvz, ↓ry_i1, ↓ry_iau, ↓ry_li0s, ↓ry_li0z, ↓ry_lr0s, ↓ry_lr0z, ↓ry_obu, ↓ry_r1, ↓ry_rii, true_and, ↓mc_ob, ↓mc_i1, ↓mc_n1, ↓mc_i2, ↓mc_n2, ↓mc_i3, ↓mc_n3, ↓mc_r4, ↓mc_r7, ↓mc_i8, ↓mc_n8, ↓mc_i9, ↓mc_n9, mc_a8, rz_set, rz_nol, rz_clr, List.set_cons_zero, List.set_cons_succ, rz_tr, Nat.reduceAdd, Int.reduceAdd, Int.reduceToNat, Int.reduceSub, Int.reduceNeg, Int.cast_ofNat_Int]
        rw [← List.length_append] at *
        rw [nI_clamp (by omega)]
        refine ⟨fun c6 => absurd trivial c6, fun c6 => ⟨vp_in_nI (by omega) (by decide), hK _ _ _ _ ?_⟩⟩
        rw [va_up_self, bx_uu]
        refine rz_blk' [(.iinc 1 1, 3, 0, 0)] (by decide +kernel) (Nat.le_refl _) (Nat.le_refl _) (fun K R hK hR => ?_)
        simp only [rw_c1, ↓rx_iinc, ↓rx_nil, ↓ry_li0s, ↓ry_li0z, ↓mc_ob, ↓mc_i1, ↓mc_n1, ↓mc_i2, ↓mc_n2, ↓mc_i3, ↓mc_n3, ↓mc_r4, ↓mc_r7, ↓mc_i8, ↓mc_n8, ↓mc_i9, ↓mc_n9, nI_add, rz_set, rz_nol, rz_clr, List.set_cons_zero, List.set_cons_succ, rz_tr, Nat.reduceAdd, Int.reduceAdd, Int.reduceToNat, Int.reduceSub, Int.reduceNeg, Int.cast_ofNat_Int]
        refine hK _ _ _ _ ?_
        refine rz_blk' [(.iinc 3 1, 3, 0, 0), (.goto (-63), 3, 0, 0)] (by decide +kernel) (Nat.le_refl _) (Nat.le_refl _) (fun K R hK hR => ?_)
        simp only [rw_c1, ↓rx_goto, ↓rx_iinc, ↓rx_nil, ↓ry_li0s, ↓ry_li0z, ↓mc_ob, ↓mc_i1, ↓mc_n1, ↓mc_i2, ↓mc_n2, ↓mc_i3, ↓mc_n3, ↓mc_r4, ↓mc_r7, ↓mc_i8, ↓mc_n8, ↓mc_i9, ↓mc_n9, nI_add, rz_set, rz_nol, rz_clr, List.set_cons_zero, List.set_cons_succ, rz_tr, Nat.reduceAdd, Int.reduceAdd, Int.reduceToNat, Int.reduceSub, Int.reduceNeg, Int.cast_ofNat_Int]
        have hs : mv_pk m al p (e + 1) = mv_pk m al p e ++ [e] := by
          simp only [mv_pk]
          rw [if_pos ⟨by rw [hge]; exact c2, c3, c5'⟩]
        have := ih (e + 1) (upd so (mv_so m al p ++ mv_pk m al p e).length (nI e)) (by omega) (by omega) (by rw [hs, ← List.append_assoc]; exact so_ok_push hso)
        rw [hs, ← List.append_assoc, List.length_append (bs := [e])] at this
        exact hK _ _ _ _ this
    · rw [if_neg c3]
      refine rz_blk' [(.ifCond .eq 28, 3, 0, 0), (.aload_n 0, 1, 0, 0), (.iload_n 3, 1, 0, 0), (.aload_n 0, 1, 0, 0), (.getfield 57, 3, 2, 12), (.iload_n 2, 1, 0, 0), (.iaload, 1, 0, 0), (.iload_n 1, 1, 0, 0)] (by decide +kernel) (Nat.le_refl _) (Nat.le_refl _) (fun K R hK hR => ?_)
      simp only [↓rx_aload_n0, ↓rx_getfield, ↓rx_iaload, ↓rx_ifCond_eq, ↓rx_iload_n1, ↓rx_iload_n2, ↓rx_iload_n3, ↓rx_nil, ↓ry_fvs, ↓ry_fvz, ↓ry_i1, ↓ry_iau, ↓ry_li0s, ↓ry_li0z, ↓ry_lr0s, ↓ry_lr0z, ↓ry_obu, ↓ry_r1, ↓ry_ri, true_and, ↓mc_ob, ↓mc_i1, ↓mc_n1, ↓mc_i2, ↓mc_n2, ↓mc_i3, ↓mc_n3, ↓mc_r4, ↓mc_r7, ↓mc_i8, ↓mc_n8, ↓mc_i9, ↓mc_n9, hb', rz_set, rz_nol, rz_clr, List.set_cons_zero, List.set_cons_succ, rz_tr, Nat.reduceAdd, Int.reduceAdd, Int.reduceToNat, Int.reduceSub, Int.reduceNeg, Int.cast_ofNat_Int]
      refine ⟨fun c4 => hK _ _ _ _ (hskip ?_), fun c4 => absurd trivial c4⟩
      simp only [mv_pk]
      rw [if_neg (fun q => c3 q.2.1)]
set_option maxRecDepth 100000 in
set_option maxHeartbeats 4000000 in
theorem mc_settle_o {w : rz_w} {d : Nat} {G : rz_G} {a : Nat} {I : Nat → Int32} {A : Nat → Nat → Int32} {J : Nat → Nat → Int64} {X : Nat → List Nat} {P : Nat → Nat} {m : mv_T} {cl al : Nat} (hm : mv_is I A X m cl) (hI4 : I 4 = nI al) (hal : al < 64) {Q : Option Value → rz_G → Prop}
    (hQ : ∀ so be, so_ok so (mv_so m al 18) → (∀ p, p ≤ 18 → be p = nI (mv_so m al p).length) → Q none (mc_put G a (upd I 3 (nI 1)) (va_up (va_up A 3 so) 4 be) J X P)) :
    ∀ (n p : Nat) (so be : Nat → Int32) (z : Option Value), 19 ≤ p + n → p ≤ 18 → so_ok so (mv_so m al p) → (∀ p', p' < p → be p' = nI (mv_so m al p').length) → rz_T w (d + 2) 0 0 m_Mach_settle 0 0 25 [some (.ref a), some (.int (nI (mv_so m al p).length)), some (.int (nI p)), z] [] (mc_put G a I (va_up (va_up A 3 so) 4 be) J X P) Q := by
  intro n
  induction n with
  | zero => intro p so be z h1 h2; omega
  | succ n ih =>
    intro p so be z hn hp hso hbe
    have hlp := mv_so_le (m := m) (al := al) p
    obtain ⟨m0, m1, m2, m3, m4, m5, -⟩ := id hm
    refine rz_blk' [(.iload_n 2, 1, 0, 0), (.bipush 18, 2, 0, 0), (.if_icmp .ge 84, 3, 0, 0), (.aload_n 0, 1, 0, 0), (.getfield 57, 3, 2, 12), (.iload_n 2, 1, 0, 0), (.iload_n 1, 1, 0, 0), (.iastore, 1, 0, 0)] (by decide +kernel) (Nat.le_refl _) (Nat.le_refl _) (fun K R hK hR => ?_)
    simp only [rw_b18, ↓rx_aload_n0, ↓rx_bipush, ↓rx_getfield, ↓rx_iastore, ↓rx_if_icmp_ge, ↓rx_iload_n1, ↓rx_iload_n2, ↓rx_nil, ↓ry_fvs, ↓ry_fvz, ↓ry_i2, ↓ry_iau, ↓ry_li0s, ↓ry_li0z, ↓ry_lr0s, ↓ry_lr0z, ↓ry_obu, ↓ry_r1, ↓ry_rii, true_and, ↓mc_ob, ↓mc_i1, ↓mc_n1, ↓mc_i2, ↓mc_n2, ↓mc_i3, ↓mc_n3, ↓mc_r4, ↓mc_r7, ↓mc_i8, ↓mc_n8, ↓mc_i9, ↓mc_n9, mc_a9, rz_set, rz_nol, rz_clr, List.set_cons_zero, List.set_cons_succ, rz_tr, Nat.reduceAdd, Int.reduceAdd, Int.reduceToNat, Int.reduceSub, Int.reduceNeg, Int.cast_ofNat_Int]
    refine ⟨fun c1 => hK _ _ _ _ ?_, fun c1 => ?_⟩
    · rw [nI_leI (by omega) (by omega)] at c1
      have hp2 : p = 18 := by omega
      subst hp2
      refine rz_blk' [(.aload_n 0, 1, 0, 0), (.getfield 57, 3, 2, 12), (.bipush 18, 2, 0, 0), (.iload_n 1, 1, 0, 0), (.iastore, 1, 0, 0)] (by decide +kernel) (Nat.le_refl _) (Nat.le_refl _) (fun K R hK hR => ?_)
      simp only [rw_b18, ↓rx_aload_n0, ↓rx_bipush, ↓rx_getfield, ↓rx_iastore, ↓rx_iload_n1, ↓rx_nil, ↓ry_fvs, ↓ry_fvz, ↓ry_iau, ↓ry_li0s, ↓ry_li0z, ↓ry_lr0s, ↓ry_lr0z, ↓ry_obu, ↓ry_r1, ↓ry_rii, true_and, ↓mc_ob, ↓mc_i1, ↓mc_n1, ↓mc_i2, ↓mc_n2, ↓mc_i3, ↓mc_n3, ↓mc_r4, ↓mc_r7, ↓mc_i8, ↓mc_n8, ↓mc_i9, ↓mc_n9, mc_a9, rz_set, rz_nol, rz_clr, List.set_cons_zero, List.set_cons_succ, rz_tr, Nat.reduceAdd, Int.reduceAdd, Int.reduceToNat, Int.reduceSub, Int.reduceNeg, Int.cast_ofNat_Int]
      refine ⟨vp_in_nI (by decide) (by decide), hK _ _ _ _ ?_⟩
      rw [va_up_self, bx_uu]
      refine rz_blk' [(.aload_n 0, 1, 0, 0), (.iconst 1, 1, 0, 0), (.putfield 47, 3, 2, 9), (.return_, 1, 0, 0)] (by decide +kernel) (Nat.le_refl _) (Nat.le_refl _) (fun K R hK hR => ?_)
      simp only [List.length_cons, List.length_nil, Nat.reduceLT, rf_2_9, rf_2_9t, rw_c1, ↓rx_aload_n0, ↓rx_iconst, ↓rx_nil, ↓rx_putfield, ↓rx_return_, ↓ry_lr0s, ↓ry_lr0z, ↓ry_obu, ↓ry_vr, true_and, ↓mc_ob, ↓mc_i1, ↓mc_n1, ↓mc_i2, ↓mc_n2, ↓mc_i3, ↓mc_n3, ↓mc_r4, ↓mc_r7, ↓mc_i8, ↓mc_n8, ↓mc_i9, ↓mc_n9, mc_u9, rz_set, rz_nol, rz_clr, List.set_cons_zero, List.set_cons_succ, rz_tr, Nat.reduceAdd, Int.reduceAdd, Int.reduceToNat, Int.reduceSub, Int.reduceNeg, Int.cast_ofNat_Int]
      refine hR _ _ (rz_nb_i (by decide)) (hQ so _ hso (fun p hp => ?_))
      rw [show (nI 18).toNatClampNeg = 18 from nI_clamp (by decide)]
      by_cases q : p = 18
      · subst q; rw [pk_us]
      · rw [pk_un q]; exact hbe p (by omega)
    rw [nI_leI (by omega) (by omega)] at c1
    rw [nI_clamp (by omega), va_up_self, bx_uu]
    refine ⟨vp_in_nI (by omega) (by decide), hK _ _ _ _ ?_⟩
    refine rz_blk' [(.iconst 0, 1, 0, 0), (.istore_n 3, 1, 0, 0)] (by decide +kernel) (Nat.le_refl _) (Nat.le_refl _) (fun K R hK hR => ?_)
    simp only [rw_c0, ↓rx_iconst, ↓rx_istore_n3, ↓rx_nil, ↓ry_i1, ↓mc_ob, ↓mc_i1, ↓mc_n1, ↓mc_i2, ↓mc_n2, ↓mc_i3, ↓mc_n3, ↓mc_r4, ↓mc_r7, ↓mc_i8, ↓mc_n8, ↓mc_i9, ↓mc_n9, rz_set, rz_nol, rz_clr, List.set_cons_zero, List.set_cons_succ, rz_tr, Nat.reduceAdd, Int.reduceAdd, Int.reduceToNat, Int.reduceSub, Int.reduceNeg, Int.cast_ofNat_Int]
    refine hK _ _ _ _ ?_
    have hA : ∀ (g1 g2 : Nat → Int32), va_up (va_up A 3 g1) 4 g2 = va_up (va_up A 4 g2) 3 g1 := by
      intro g1 g2; funext k; simp only [va_up]; by_cases q : k = 3 <;> by_cases q2 : k = 4 <;> simp [q, q2]
    rw [hA]
    have h0 := mc_settle_i (w := w) (d := d) (G := G) (a := a) (J := J) (P := P) (p := p) (Q := Q) (A := va_up A 4 (upd be p (nI (mv_so m al p).length))) (mv_is_keep hm (fun _ _ => rfl) (fun k hk => va_up_ne _ _ (by omega))) hI4 hal (by omega) (by rw [va_up_self, pk_us]) (fun so' z' hso' => ?_) (m.2.1.length + 1) 0 so (by omega) (by omega) (by simpa [mv_pk] using hso)
    · simp only [mv_pk, List.append_nil] at h0
      exact h0
    rw [← hA]
    refine rz_blk' [(.iinc 2 1, 3, 0, 0), (.goto (-84), 3, 0, 0)] (by decide +kernel) (Nat.le_refl _) (Nat.le_refl _) (fun K R hK hR => ?_)
    simp only [rw_c1, ↓rx_goto, ↓rx_iinc, ↓rx_nil, ↓ry_li0s, ↓ry_li0z, ↓mc_ob, ↓mc_i1, ↓mc_n1, ↓mc_i2, ↓mc_n2, ↓mc_i3, ↓mc_n3, ↓mc_r4, ↓mc_r7, ↓mc_i8, ↓mc_n8, ↓mc_i9, ↓mc_n9, nI_add, rz_set, rz_nol, rz_clr, List.set_cons_zero, List.set_cons_succ, rz_tr, Nat.reduceAdd, Int.reduceAdd, Int.reduceToNat, Int.reduceSub, Int.reduceNeg, Int.cast_ofNat_Int]
    refine hK _ _ _ _ (ih (p + 1) so' _ z' (by omega) (by omega) hso' (fun p' hp' => ?_))
    by_cases q : p' = p
    · subst q; rw [pk_us]
    · rw [pk_un q]; exact hbe p' (by omega)
set_option maxRecDepth 100000 in
set_option maxHeartbeats 4000000 in
/-- settle() -/
theorem c_Mach_settle {w : rz_w} {d : Nat} {G : rz_G} {a : Nat} {I : Nat → Int32} {A : Nat → Nat → Int32} {J : Nat → Nat → Int64} {X : Nat → List Nat} {P : Nat → Nat} {m : mv_T} {cl : Nat} (hm : mv_is I A X m cl) (hs : I 3 = nI 0 ∨ mv_set I A m cl) : rz_C w (d + 2) 0 0 y_Mach_settle m_Mach_settle [.ref a] (mc_put G a I A J X P) (fun r G' => r = none ∧ ∃ I' A', G' = mc_put G a I' A' J X P ∧ mv_is I' A' X m cl ∧ mv_set I' A' m cl) := by
  refine rz_enter' [some (.ref a), none, none, none] (by decide +kernel) rfl rfl (Nat.le_of_ble_eq_true rfl) rfl ?_
  rcases hs with hs | hs
  ·
    refine rz_blk' [(.aload_n 0, 1, 0, 0), (.getfield 47, 3, 2, 9), (.ifCond .eq 4, 3, 0, 0), (.return_, 1, 0, 0)] (by decide +kernel) (Nat.le_refl _) (Nat.le_refl _) (fun K R hK hR => ?_)
    simp only [↓rx_aload_n0, ↓rx_getfield, ↓rx_ifCond_eq, ↓rx_nil, ↓rx_return_, ↓ry_fvs, ↓ry_fvz, ↓ry_i1, ↓ry_lr0s, ↓ry_lr0z, ↓ry_obu, ↓ry_r1, ↓mc_ob, ↓mc_i1, ↓mc_n1, ↓mc_i2, ↓mc_n2, ↓mc_i3, ↓mc_n3, ↓mc_r4, ↓mc_r7, ↓mc_i8, ↓mc_n8, ↓mc_i9, ↓mc_n9, hs, rz_set, rz_nol, rz_clr, List.set_cons_zero, List.set_cons_succ, rz_tr, Nat.reduceAdd, Int.reduceAdd, Int.reduceToNat, Int.reduceSub, Int.reduceNeg, Int.cast_ofNat_Int]
    refine ⟨fun c1 => hK _ _ _ _ ?_, fun c1 => absurd rfl c1⟩
    refine rz_blk' [(.aload_n 0, 1, 0, 0), (.aload_n 0, 1, 0, 0)] (by decide +kernel) (Nat.le_refl _) (Nat.le_refl _) (fun K R hK hR => ?_)
    simp only [↓rx_aload_n0, ↓rx_nil, ↓ry_lr0s, ↓ry_lr0z, ↓mc_ob, ↓mc_i1, ↓mc_n1, ↓mc_i2, ↓mc_n2, ↓mc_i3, ↓mc_n3, ↓mc_r4, ↓mc_r7, ↓mc_i8, ↓mc_n8, ↓mc_i9, ↓mc_n9, rz_set, rz_nol, rz_clr, List.set_cons_zero, List.set_cons_succ, rz_tr, Nat.reduceAdd, Int.reduceAdd, Int.reduceToNat, Int.reduceSub, Int.reduceNeg, Int.cast_ofNat_Int]
    refine hK _ _ _ _ ?_
    refine rz_cV (As := []) (b := a) (S := [.ref a]) l_Mach_63 (by decide +kernel) rfl mc_at0 rfl (Nat.le_of_ble_eq_true rfl) (Nat.le_refl _) (Nat.le_refl _) (c_Mach_comeToStates hm) (fun r G' hq => ?_)
    obtain ⟨rfl, rfl⟩ := hq
    simp only [Option.toList, List.cons_append, List.nil_append]
    refine rz_blk' [(.aload_n 0, 1, 0, 0)] (by decide +kernel) (Nat.le_refl _) (Nat.le_refl _) (fun K R hK hR => ?_)
    simp only [↓rx_aload_n0, ↓rx_nil, ↓ry_lr0s, ↓ry_lr0z, ↓mc_ob, ↓mc_i1, ↓mc_n1, ↓mc_i2, ↓mc_n2, ↓mc_i3, ↓mc_n3, ↓mc_r4, ↓mc_r7, ↓mc_i8, ↓mc_n8, ↓mc_i9, ↓mc_n9, rz_set, rz_nol, rz_clr, List.set_cons_zero, List.set_cons_succ, rz_tr, Nat.reduceAdd, Int.reduceAdd, Int.reduceToNat, Int.reduceSub, Int.reduceNeg, Int.cast_ofNat_Int]
    refine hK _ _ _ _ ?_
    refine rz_cV (As := []) (b := a) (S := [.int (nI (mk_it m.1 (mv_ft m) 1)), .ref a]) l_Mach_67 (by decide +kernel) rfl mc_at0 rfl (Nat.le_of_ble_eq_true rfl) (Nat.le_refl _) (Nat.le_refl _) (c_Mach_leadingOnStates hm) (fun r G' hq => ?_)
    obtain ⟨rfl, rfl⟩ := hq
    simp only [Option.toList, List.cons_append, List.nil_append]
    have h6 := mv_ft6 hm
    have h7 : cl < 64 := hm.2.2.2.2.2.2.2.1
    refine rz_blk' [(.iand, 1, 0, 0), (.putfield 51, 3, 2, 10)] (by decide +kernel) (Nat.le_refl _) (Nat.le_refl _) (fun K R hK hR => ?_)
    simp only [List.length_cons, List.length_nil, Nat.reduceLT, rf_2_10, ↓rx_iand, ↓rx_nil, ↓rx_putfield, ↓ry_i2, ↓ry_obu, ↓ry_vr, true_and, ↓mc_ob, ↓mc_i1, ↓mc_n1, ↓mc_i2, ↓mc_n2, ↓mc_i3, ↓mc_n3, ↓mc_r4, ↓mc_r7, ↓mc_i8, ↓mc_n8, ↓mc_i9, ↓mc_n9, mc_u10, rz_set, rz_nol, rz_clr, List.set_cons_zero, List.set_cons_succ, rz_tr, Nat.reduceAdd, Int.reduceAdd, Int.reduceToNat, Int.reduceSub, Int.reduceNeg, Int.cast_ofNat_Int]
    rw [hp_ands _ (mk_it64 (by decide) h6.1 _) _ (mk_it64 h7 h6.2 _)]
    refine hK _ _ _ _ ?_
    refine rz_blk' [(.iconst 0, 1, 0, 0), (.istore_n 1, 1, 0, 0)] (by decide +kernel) (Nat.le_refl _) (Nat.le_refl _) (fun K R hK hR => ?_)
    simp only [rw_c0, ↓rx_iconst, ↓rx_istore_n1, ↓rx_nil, ↓ry_i1, ↓mc_ob, ↓mc_i1, ↓mc_n1, ↓mc_i2, ↓mc_n2, ↓mc_i3, ↓mc_n3, ↓mc_r4, ↓mc_r7, ↓mc_i8, ↓mc_n8, ↓mc_i9, ↓mc_n9, rz_set, rz_nol, rz_clr, List.set_cons_zero, List.set_cons_succ, rz_tr, Nat.reduceAdd, Int.reduceAdd, Int.reduceToNat, Int.reduceSub, Int.reduceNeg, Int.cast_ofNat_Int]
    refine hK _ _ _ _ ?_
    refine rz_blk' [(.iconst 0, 1, 0, 0), (.istore_n 2, 1, 0, 0)] (by decide +kernel) (Nat.le_refl _) (Nat.le_refl _) (fun K R hK hR => ?_)
    simp only [rw_c0, ↓rx_iconst, ↓rx_istore_n2, ↓rx_nil, ↓ry_i1, ↓mc_ob, ↓mc_i1, ↓mc_n1, ↓mc_i2, ↓mc_n2, ↓mc_i3, ↓mc_n3, ↓mc_r4, ↓mc_r7, ↓mc_i8, ↓mc_n8, ↓mc_i9, ↓mc_n9, rz_set, rz_nol, rz_clr, List.set_cons_zero, List.set_cons_succ, rz_tr, Nat.reduceAdd, Int.reduceAdd, Int.reduceToNat, Int.reduceSub, Int.reduceNeg, Int.cast_ofNat_Int]
    refine hK _ _ _ _ ?_
    have hm2 : mv_is (upd I 4 (nI (mv_al m cl))) A X m cl := mv_is_keep hm (fun k hk => pk_un (by omega)) (fun _ _ => rfl)
    have hA : va_up (va_up A 3 (A 3)) 4 (A 4) = A := by
      funext k; simp only [va_up]; by_cases q : k = 4
      · simp [q]
      · by_cases q2 : k = 3 <;> simp [q, q2]
    have := mc_settle_o (w := w) (d := d) (G := G) (a := a) (J := J) (P := P) hm2 (al := mv_al m cl) pk_us (mv_al64 hm) (Q := fun r G' => r = none ∧ ∃ I' A', G' = mc_put G a I' A' J X P ∧ mv_is I' A' X m cl ∧ mv_set I' A' m cl) (fun so be h1 h2 => ⟨rfl, _, _, rfl, mv_is_keep hm2 (fun k hk => pk_un (by omega)) (fun k hk => by rw [va_up_ne _ _ (by omega), va_up_ne _ _ (by omega)]), ?_⟩) 19 0 (A 3) (A 4) none (by omega) (by omega) (fun i hi => by simp [mv_so] at hi) (fun p' hp' => by omega)
    · rw [hA] at this
      exact this
    · refine ⟨pk_us, by rw [pk_un (by decide), pk_us], ?_, ?_⟩
      · rw [va_up_ne _ _ (by decide), va_up_self]; exact h1
      · rw [va_up_self]; exact h2
  · have h3 := hs.1
    refine rz_blk' [(.aload_n 0, 1, 0, 0), (.getfield 47, 3, 2, 9), (.ifCond .eq 4, 3, 0, 0), (.return_, 1, 0, 0)] (by decide +kernel) (Nat.le_refl _) (Nat.le_refl _) (fun K R hK hR => ?_)
    simp only [↓rx_aload_n0, ↓rx_getfield, ↓rx_ifCond_eq, ↓rx_nil, ↓rx_return_, ↓ry_fvs, ↓ry_fvz, ↓ry_i1, ↓ry_lr0s, ↓ry_lr0z, ↓ry_obu, ↓ry_r1, ↓mc_ob, ↓mc_i1, ↓mc_n1, ↓mc_i2, ↓mc_n2, ↓mc_i3, ↓mc_n3, ↓mc_r4, ↓mc_r7, ↓mc_i8, ↓mc_n8, ↓mc_i9, ↓mc_n9, h3, rz_set, rz_nol, rz_clr, List.set_cons_zero, List.set_cons_succ, rz_tr, Nat.reduceAdd, Int.reduceAdd, Int.reduceToNat, Int.reduceSub, Int.reduceNeg, Int.cast_ofNat_Int]
    exact ⟨fun c1 => absurd c1 (by decide), fun c1 => hR _ _ (rz_nb_i (by decide)) ⟨rfl, _, _, rfl, hm, hs⟩⟩

