/-! WriterDesk$Builder: findKinds -/
def bk_k0 (em : mv_T) (ec : Nat) (s : Nat) : Nat := if s &&& ec &&& mv_al em ec = 0 then 0 else 1
def bk_af (em : mv_T) (ec : Nat) (s l : Nat) : Nat := mv_af em (mv_al em ec) s l
def bk_it (af : Nat → Nat → Nat) : Nat → Bool → Nat → (Nat → Nat) → (Nat → Nat)
  | 0, _, _, kd => kd
  | k + 1, mo, kn, kd => if mo then bk_it af k (decide (kn < bk_c (bk_n kd af) 64)) (bk_c (bk_n kd af) 64) (bk_n kd af) else kd
def bk_kd (em : mv_T) (ec : Nat) : Nat → Nat := bk_it (bk_af em ec) 64 true 0 (bk_k0 em ec)
section BKF
variable {w : rz_w} {d : Nat} {G : rz_G} {a : Nat} {I : Nat → Int32} {J : Nat → Nat → Int64} {X : Nat → List Nat} {P : Nat → Nat} {Im : Nat → Int32} {Am : Nat → Nat → Int32} {Jm : Nat → Nat → Int64} {Xm : Nat → List Nat} {Pm : Nat → Nat} {b : Bool} {em : mv_T} {ec : Nat} {A3 : Nat → Int32} {Q : Option Value → rz_G → Prop}
set_option maxRecDepth 100000 in
set_option maxHeartbeats 4000000 in
theorem bk_f_l (hm : mv_is Im Am Xm em ec) (hs : mv_set Im Am em ec) {s : Nat} (hs64 : s < 64) :
    ∀ (k l : Nat) (A : Nat → Nat → Int32), l + k = 3 →
      (∀ A' z2, (∀ i, i ≠ 0 → A' i = A i) → (∀ i, i < s * 3 + l → A' 0 i = A 0 i) → (∀ l', l ≤ l' → l' < 3 → A' 0 (s * 3 + l') = nI (bk_af em ec s l')) → rz_T w (d + 2) 0 0 m_Bld_findKinds 0 0 62 [some (.ref a), some (.int (nI s)), z2, none, none] [] (mc_put (bo_put G a I A' J X P) (a + 1) Im Am Jm Xm Pm) Q) →
      rz_T w (d + 2) 0 0 m_Bld_findKinds 0 0 32 [some (.ref a), some (.int (nI s)), some (.int (nI l)), none, none] [] (mc_put (bo_put G a I A J X P) (a + 1) Im Am Jm Xm Pm) Q := by
  intro k
  induction k with
  | zero =>
    intro l A hk hc
    refine rz_blk' [(.iload_n 2, 1, 0, 0), (.iconst 3, 1, 0, 0), (.if_icmp .ge 28, 3, 0, 0)] (by decide +kernel) (Nat.le_refl _) (Nat.le_refl _) (fun K R hK hR => ?_)
    simp only [rw_c3, ↓rx_iconst, ↓rx_if_icmp_ge, ↓rx_iload_n2, ↓rx_nil, ↓ry_i2, ↓ry_li0s, ↓ry_li0z, ↓bl_ob, ↓bl_r71, ↓bl_i76, ↓bl_i77, ↓bl_i78, ↓bl_i79, ↓bl_r80, ↓bl_r81, rz_set, rz_nol, rz_clr, List.set_cons_zero, List.set_cons_succ, rz_tr, Nat.reduceAdd, Int.reduceAdd, Int.reduceToNat, Int.reduceSub, Int.reduceNeg, Int.cast_ofNat_Int]
    rw [nI_leI (by omega) (by omega)]
    exact ⟨fun q => hK _ _ _ _ (hc A _ (fun _ _ => rfl) (fun _ _ => rfl) (fun l' h1 h2 => by omega)), fun q => by omega⟩
  | succ k ih =>
    intro l A hk hc
    refine rz_blk' [(.iload_n 2, 1, 0, 0), (.iconst 3, 1, 0, 0), (.if_icmp .ge 28, 3, 0, 0), (.aload_n 0, 1, 0, 0), (.getfield 34, 3, 8, 5), (.iload_n 1, 1, 0, 0), (.iconst 3, 1, 0, 0), (.imul, 1, 0, 0), (.iload_n 2, 1, 0, 0), (.iadd, 1, 0, 0), (.aload_n 0, 1, 0, 0), (.getfield 12, 3, 8, 0), (.iload_n 1, 1, 0, 0), (.iload_n 2, 1, 0, 0)] (by decide +kernel) (Nat.le_refl _) (Nat.le_refl _) (fun K R hK hR => ?_)
    simp only [rw_c3, ↓rx_aload_n0, ↓rx_getfield, ↓rx_iadd, ↓rx_iconst, ↓rx_if_icmp_ge, ↓rx_iload_n1, ↓rx_iload_n2, ↓rx_imul, ↓rx_nil, ↓ry_fvs, ↓ry_fvz, ↓ry_i2, ↓ry_li0s, ↓ry_li0z, ↓ry_lr0s, ↓ry_lr0z, ↓ry_obu, ↓ry_r1, ↓bl_ob, ↓bl_r71, ↓bl_i76, ↓bl_i77, ↓bl_i78, ↓bl_i79, ↓bl_r80, ↓bl_r81, pk_mul, nI_add, rz_set, rz_nol, rz_clr, List.set_cons_zero, List.set_cons_succ, rz_tr, Nat.reduceAdd, Int.reduceAdd, Int.reduceToNat, Int.reduceSub, Int.reduceNeg, Int.cast_ofNat_Int]
    rw [nI_leI (by omega) (by omega)]
    refine ⟨fun q => by omega, fun q => hK _ _ _ _ ?_⟩
    refine rz_cV (As := [.int (nI s), .int (nI l)]) (b := a + 1) (S := [.int (nI (s * 3 + l)), .ref (a + 76)]) l_Bld_186 (by decide +kernel) rfl (mc_at (o := 0) (by decide)) rfl (Nat.le_of_ble_eq_true rfl) (Nat.le_refl _) (Nat.le_refl _) (c_Mach_after hm hs hs64 (by omega)) (fun r G' hr => ?_)
    obtain ⟨rfl, hg⟩ := hr
    have hg := hg.symm
    subst hg
    simp only [Option.toList, List.cons_append, List.nil_append]
    refine rz_blk' [(.iastore, 1, 0, 0)] (by decide +kernel) (Nat.le_refl _) (Nat.le_refl _) (fun K R hK hR => ?_)
    simp only [↓rx_iastore, ↓rx_nil, ↓ry_iau, ↓ry_rii, true_and, ↓bl_ob, ↓bl_r71, ↓bl_i76, ↓bl_i77, ↓bl_i78, ↓bl_i79, ↓bl_r80, ↓bl_r81, bl_a76, rz_set, rz_nol, rz_clr, List.set_cons_zero, List.set_cons_succ, rz_tr, Nat.reduceAdd, Int.reduceAdd, Int.reduceToNat, Int.reduceSub, Int.reduceNeg, Int.cast_ofNat_Int]
    rw [nI_clamp (by omega)]
    refine ⟨vp_in_nI (by omega) (by decide), hK _ _ _ _ ?_⟩
    refine rz_blk' [(.iinc 2 1, 3, 0, 0), (.goto (-27), 3, 0, 0)] (by decide +kernel) (Nat.le_refl _) (Nat.le_refl _) (fun K R hK hR => ?_)
    simp only [rw_c1, ↓rx_goto, ↓rx_iinc, ↓rx_nil, ↓ry_li0s, ↓ry_li0z, ↓bl_ob, ↓bl_r71, ↓bl_i76, ↓bl_i77, ↓bl_i78, ↓bl_i79, ↓bl_r80, ↓bl_r81, nI_add, rz_set, rz_nol, rz_clr, List.set_cons_zero, List.set_cons_succ, rz_tr, Nat.reduceAdd, Int.reduceAdd, Int.reduceToNat, Int.reduceSub, Int.reduceNeg, Int.cast_ofNat_Int]
    refine hK _ _ _ _ (ih (l + 1) _ (by omega) (fun A' z2 t1 t2 t3 => hc A' z2 (fun i hi => (t1 i hi).trans (va_up_ne _ _ hi)) (fun i hi => ?_) (fun l' h1 h2 => ?_)))
    · rw [t2 i (by omega), va_up_self, pk_un (by omega)]
    · by_cases c : l' = l
      · subst c; rw [t2 _ (by omega), va_up_self, pk_us]; rfl
      · exact t3 l' (by omega) h2

set_option maxRecDepth 100000 in
set_option maxHeartbeats 4000000 in
theorem bk_f_s (hm : mv_is Im Am Xm em ec) (hs : mv_set Im Am em ec) (hP : P 0 = a + (76 + bk_a b))
    (hc : ∀ A z1 z2, (∀ i, i < 64 → A (bk_a b) i = nI (bk_k0 em ec i)) → (∀ i l, i < 64 → l < 3 → A 0 (i * 3 + l) = nI (bk_af em ec i l)) → A 3 = A3 → rz_T w (d + 2) 0 0 m_Bld_findKinds 0 0 68 [some (.ref a), some (.int z1), z2, none, none] [] (mc_put (bo_put G a I A J X P) (a + 1) Im Am Jm Xm Pm) Q) :
    ∀ (k s : Nat) (A : Nat → Nat → Int32) (z2 : Option Value), s + k = 64 → (∀ i, i < s → A (bk_a b) i = nI (bk_k0 em ec i)) → (∀ i l, i < s → l < 3 → A 0 (i * 3 + l) = nI (bk_af em ec i l)) → A 3 = A3 → rz_T w (d + 2) 0 0 m_Bld_findKinds 0 0 2 [some (.ref a), some (.int (nI s)), z2, none, none] [] (mc_put (bo_put G a I A J X P) (a + 1) Im Am Jm Xm Pm) Q := by
  intro k
  have h0 : bk_a b ≠ 0 := by cases b <;> decide
  have h3' : 3 ≠ bk_a b := by cases b <;> decide
  induction k with
  | zero =>
    intro s A z2 hk h1 h2 h3
    refine rz_blk' [(.iload_n 1, 1, 0, 0), (.bipush 64, 2, 0, 0), (.if_icmp .ge 63, 3, 0, 0)] (by decide +kernel) (Nat.le_refl _) (Nat.le_refl _) (fun K R hK hR => ?_)
    simp only [rw_b64, ↓rx_bipush, ↓rx_if_icmp_ge, ↓rx_iload_n1, ↓rx_nil, ↓ry_i2, ↓ry_li0s, ↓ry_li0z, ↓bl_ob, ↓bl_r71, ↓bl_i76, ↓bl_i77, ↓bl_i78, ↓bl_i79, ↓bl_r80, ↓bl_r81, rz_set, rz_nol, rz_clr, List.set_cons_zero, List.set_cons_succ, rz_tr, Nat.reduceAdd, Int.reduceAdd, Int.reduceToNat, Int.reduceSub, Int.reduceNeg, Int.cast_ofNat_Int]
    rw [nI_leI (by omega) (by omega)]
    have : s = 64 := by omega
    subst this
    exact ⟨fun q => hK _ _ _ _ (hc A _ _ h1 h2 h3), fun q => by omega⟩
  | succ k ih =>
    intro s A z2 hk h1 h2 h3
    have hal := mv_al64 hm
    refine rz_blk' [(.iload_n 1, 1, 0, 0), (.bipush 64, 2, 0, 0), (.if_icmp .ge 63, 3, 0, 0), (.aload_n 0, 1, 0, 0), (.getfield 38, 3, 8, 6), (.iload_n 1, 1, 0, 0), (.aload_n 0, 1, 0, 0), (.getfield 12, 3, 8, 0), (.iload_n 1, 1, 0, 0)] (by decide +kernel) (Nat.le_refl _) (Nat.le_refl _) (fun K R hK hR => ?_)
    simp only [rw_b64, ↓rx_aload_n0, ↓rx_bipush, ↓rx_getfield, ↓rx_if_icmp_ge, ↓rx_iload_n1, ↓rx_nil, ↓ry_fvs, ↓ry_fvz, ↓ry_i2, ↓ry_li0s, ↓ry_li0z, ↓ry_lr0s, ↓ry_lr0z, ↓ry_obu, ↓ry_r1, ↓bl_ob, ↓bl_r71, ↓bl_i76, ↓bl_i77, ↓bl_i78, ↓bl_i79, ↓bl_r80, ↓bl_r81, rz_set, rz_nol, rz_clr, List.set_cons_zero, List.set_cons_succ, rz_tr, Nat.reduceAdd, Int.reduceAdd, Int.reduceToNat, Int.reduceSub, Int.reduceNeg, Int.cast_ofNat_Int]
    rw [nI_leI (by omega) (by omega)]
    refine ⟨fun q => by omega, fun q => hK _ _ _ _ ?_⟩
    refine rz_cV (As := [.int (nI s)]) (b := a + 1) (S := [.int (nI s), .ref (P 0)]) l_Bld_183 (by decide +kernel) rfl (mc_at (o := 0) (by decide)) rfl (Nat.le_of_ble_eq_true rfl) (Nat.le_refl _) (Nat.le_refl _) (c_Mach_accepts hm.2.2.2.2.2.2.1 hm.2.2.2.2.2.2.2.1 hs.2.1 hal (by omega)) (fun r G' hr => ?_)
    obtain ⟨rfl, hg⟩ := hr
    have hg := hg.symm
    subst hg
    simp only [Option.toList, List.cons_append, List.nil_append]
    have hk0 : (mc_put (bo_put G a I A J X P) (a + 1) Im Am Jm Xm Pm) (P 0) = some (.inl (0, 64, .inl (A (bk_a b)))) := by rw [hP]; exact bl_ck
    have hst : ∀ v : Nat, v = bk_k0 em ec s → rz_T w (d + 2) 0 0 m_Bld_findKinds 0 0 29 [some (.ref a), some (.int (nI s)), z2, none, none] [.int (nI v), .int (nI s), .ref (P 0)] (mc_put (bo_put G a I A J X P) (a + 1) Im Am Jm Xm Pm) Q := by
      intro v hv
      refine rz_blk' [(.iastore, 1, 0, 0)] (by decide +kernel) (Nat.le_refl _) (Nat.le_refl _) (fun K R hK hR => ?_)
      simp only [↓rx_iastore, ↓rx_nil, ↓ry_iau, ↓ry_rii, true_and, ↓bl_ob, ↓bl_r71, ↓bl_i76, ↓bl_i77, ↓bl_i78, ↓bl_i79, ↓bl_r80, ↓bl_r81, ↓rh_ia hk0, rz_set, rz_nol, rz_clr, List.set_cons_zero, List.set_cons_succ, rz_tr, Nat.reduceAdd, Int.reduceAdd, Int.reduceToNat, Int.reduceSub, Int.reduceNeg, Int.cast_ofNat_Int]
      rw [nI_clamp (by omega), hP, bl_ak]
      refine ⟨vp_in_nI (by omega) (by decide), hK _ _ _ _ ?_⟩
      generalize hA2 : va_up A (bk_a b) _ = A2
      refine rz_blk' [(.iconst 0, 1, 0, 0), (.istore_n 2, 1, 0, 0)] (by decide +kernel) (Nat.le_refl _) (Nat.le_refl _) (fun K R hK hR => ?_)
      simp only [rw_c0, ↓rx_iconst, ↓rx_istore_n2, ↓rx_nil, ↓ry_i1, ↓bl_ob, ↓bl_r71, ↓bl_i76, ↓bl_i77, ↓bl_i78, ↓bl_i79, ↓bl_r80, ↓bl_r81, rz_set, rz_nol, rz_clr, List.set_cons_zero, List.set_cons_succ, rz_tr, Nat.reduceAdd, Int.reduceAdd, Int.reduceToNat, Int.reduceSub, Int.reduceNeg, Int.cast_ofNat_Int]
      refine hK _ _ _ _ (bk_f_l hm hs (by omega) 3 0 A2 rfl (fun A4 z2' t1 t2 t3 => ?_))
      refine rz_blk' [(.iinc 1 1, 3, 0, 0), (.goto (-63), 3, 0, 0)] (by decide +kernel) (Nat.le_refl _) (Nat.le_refl _) (fun K R hK hR => ?_)
      simp only [rw_c1, ↓rx_goto, ↓rx_iinc, ↓rx_nil, ↓ry_li0s, ↓ry_li0z, ↓bl_ob, ↓bl_r71, ↓bl_i76, ↓bl_i77, ↓bl_i78, ↓bl_i79, ↓bl_r80, ↓bl_r81, nI_add, rz_set, rz_nol, rz_clr, List.set_cons_zero, List.set_cons_succ, rz_tr, Nat.reduceAdd, Int.reduceAdd, Int.reduceToNat, Int.reduceSub, Int.reduceNeg, Int.cast_ofNat_Int]
      refine hK _ _ _ _ (ih (s + 1) A4 _ (by omega) (fun i hi => ?_) (fun i l hi hl => ?_) ?_)
      · rw [t1 _ h0, ← hA2, va_up_self]
        by_cases c : i = s
        · subst c; rw [pk_us, hv]
        · rw [pk_un c]; exact h1 i (by omega)
      · by_cases c : i = s
        · subst c; exact t3 l (by omega) hl
        · rw [t2 _ (by omega), ← hA2, va_up_ne _ _ (Ne.symm h0)]; exact h2 i l (by omega) hl
      · rw [t1 3 (by decide), ← hA2, va_up_ne _ _ h3']; exact h3
    by_cases c : s &&& ec &&& mv_al em ec = 0
    · rw [if_pos c]
      refine rz_blk' [(.ifCond .eq 7, 3, 0, 0)] (by decide +kernel) (Nat.le_refl _) (Nat.le_refl _) (fun K R hK hR => ?_)
      simp only [↓rx_ifCond_eq, ↓rx_nil, ↓ry_i1, ↓bl_ob, ↓bl_r71, ↓bl_i76, ↓bl_i77, ↓bl_i78, ↓bl_i79, ↓bl_r80, ↓bl_r81, rz_set, rz_nol, rz_clr, List.set_cons_zero, List.set_cons_succ, rz_tr, Nat.reduceAdd, Int.reduceAdd, Int.reduceToNat, Int.reduceSub, Int.reduceNeg, Int.cast_ofNat_Int]
      refine ⟨fun _ => hK _ _ _ _ ?_, fun z => absurd trivial z⟩
      refine rz_blk' [(.iconst 0, 1, 0, 0)] (by decide +kernel) (Nat.le_refl _) (Nat.le_refl _) (fun K R hK hR => ?_)
      simp only [rw_c0, ↓rx_iconst, ↓rx_nil, ↓bl_ob, ↓bl_r71, ↓bl_i76, ↓bl_i77, ↓bl_i78, ↓bl_i79, ↓bl_r80, ↓bl_r81, rz_set, rz_nol, rz_clr, List.set_cons_zero, List.set_cons_succ, rz_tr, Nat.reduceAdd, Int.reduceAdd, Int.reduceToNat, Int.reduceSub, Int.reduceNeg, Int.cast_ofNat_Int]
      exact hK _ _ _ _ (hst 0 (by rw [bk_k0, if_pos c]))
    · rw [if_neg c]
      refine rz_blk' [(.ifCond .eq 7, 3, 0, 0), (.iconst 1, 1, 0, 0), (.goto 4, 3, 0, 0)] (by decide +kernel) (Nat.le_refl _) (Nat.le_refl _) (fun K R hK hR => ?_)
      simp only [rw_c1, ↓rx_goto, ↓rx_iconst, ↓rx_ifCond_eq, ↓rx_nil, ↓ry_i1, ↓bl_ob, ↓bl_r71, ↓bl_i76, ↓bl_i77, ↓bl_i78, ↓bl_i79, ↓bl_r80, ↓bl_r81, rz_set, rz_nol, rz_clr, List.set_cons_zero, List.set_cons_succ, rz_tr, Nat.reduceAdd, Int.reduceAdd, Int.reduceToNat, Int.reduceSub, Int.reduceNeg, Int.cast_ofNat_Int]
      exact ⟨fun z => absurd z (by decide), fun _ => hK _ _ _ _ (hst 1 (by rw [bk_k0, if_neg c]))⟩

set_option maxRecDepth 100000 in
set_option maxHeartbeats 4000000 in
theorem bk_f_r {af : Nat → Nat → Nat} :
    ∀ (k t : Nat) (mo : Bool) (kn : Nat) (kd : Nat → Nat) (b : Bool) (A : Nat → Nat → Int32) (P : Nat → Nat) (z4 : Option Value), t + k = 64 → kn ≤ 64 → bk_st a A P b kd af → A 3 = A3 →
      (∀ A' P' b', bk_st a A' P' b' (bk_it af k mo kn kd) af → A' 3 = A3 → Q none (mc_put (bo_put G a I A' J X P') (a + 1) Im Am Jm Xm Pm)) →
      rz_T w (d + 2) 0 0 m_Bld_findKinds 0 0 74 [some (.ref a), some (.int (nI kn)), some (.int (rz_b mo)), some (.int (nI t)), z4] [] (mc_put (bo_put G a I A J X P) (a + 1) Im Am Jm Xm Pm) Q := by
  intro k
  induction k with
  | zero =>
    intro t mo kn kd b A P z4 hk hkn hS h3 hc
    have hret : rz_T w (d + 2) 0 0 m_Bld_findKinds 0 0 111 [some (.ref a), some (.int (nI kn)), some (.int (rz_b mo)), some (.int (nI t)), z4] [] (mc_put (bo_put G a I A J X P) (a + 1) Im Am Jm Xm Pm) Q := by
      refine rz_blk' [(.return_, 1, 0, 0)] (by decide +kernel) (Nat.le_refl _) (Nat.le_refl _) (fun K R hK hR => ?_)
      simp only [↓rx_nil, ↓rx_return_, ↓bl_ob, ↓bl_r71, ↓bl_i76, ↓bl_i77, ↓bl_i78, ↓bl_i79, ↓bl_r80, ↓bl_r81, rz_set, rz_nol, rz_clr, List.set_cons_zero, List.set_cons_succ, rz_tr, Nat.reduceAdd, Int.reduceAdd, Int.reduceToNat, Int.reduceSub, Int.reduceNeg, Int.cast_ofNat_Int]
      exact hR _ _ (rz_nb_i (by decide)) (hc A P b hS h3)
    refine rz_blk' [(.iload_n 2, 1, 0, 0), (.ifCond .eq 36, 3, 0, 0), (.iload_n 3, 1, 0, 0), (.bipush 64, 2, 0, 0), (.if_icmp .ge 30, 3, 0, 0)] (by decide +kernel) (Nat.le_refl _) (Nat.le_refl _) (fun K R hK hR => ?_)
    simp only [rw_b64, ↓rx_bipush, ↓rx_ifCond_eq, ↓rx_if_icmp_ge, ↓rx_iload_n2, ↓rx_iload_n3, ↓rx_nil, ↓ry_i1, ↓ry_i2, ↓ry_li0s, ↓ry_li0z, ↓bl_ob, ↓bl_r71, ↓bl_i76, ↓bl_i77, ↓bl_i78, ↓bl_i79, ↓bl_r80, ↓bl_r81, rz_set, rz_nol, rz_clr, List.set_cons_zero, List.set_cons_succ, rz_tr, Nat.reduceAdd, Int.reduceAdd, Int.reduceToNat, Int.reduceSub, Int.reduceNeg, Int.cast_ofNat_Int]
    rw [nI_leI (by omega) (by omega)]
    exact ⟨fun _ => hK _ _ _ _ hret, fun _ => ⟨fun _ => hK _ _ _ _ hret, fun c => by omega⟩⟩
  | succ k ih =>
    intro t mo kn kd b A P z4 hk hkn hS h3 hc
    simp only [bk_it] at hc
    refine rz_blk' [(.iload_n 2, 1, 0, 0), (.ifCond .eq 36, 3, 0, 0), (.iload_n 3, 1, 0, 0), (.bipush 64, 2, 0, 0), (.if_icmp .ge 30, 3, 0, 0), (.aload_n 0, 1, 0, 0)] (by decide +kernel) (Nat.le_refl _) (Nat.le_refl _) (fun K R hK hR => ?_)
    simp only [rw_b64, ↓rx_aload_n0, ↓rx_bipush, ↓rx_ifCond_eq, ↓rx_if_icmp_ge, ↓rx_iload_n2, ↓rx_iload_n3, ↓rx_nil, ↓ry_i1, ↓ry_i2, ↓ry_li0s, ↓ry_li0z, ↓ry_lr0s, ↓ry_lr0z, ↓bl_ob, ↓bl_r71, ↓bl_i76, ↓bl_i77, ↓bl_i78, ↓bl_i79, ↓bl_r80, ↓bl_r81, rz_set, rz_nol, rz_clr, List.set_cons_zero, List.set_cons_succ, rz_tr, Nat.reduceAdd, Int.reduceAdd, Int.reduceToNat, Int.reduceSub, Int.reduceNeg, Int.cast_ofNat_Int]
    rw [rz_b_0, nI_leI (by omega) (by omega)]
    refine ⟨fun c => hK _ _ _ _ ?_, fun c => ⟨fun c2 => by omega, fun c2 => hK _ _ _ _ ?_⟩⟩
    · rw [c] at hc
      simp only [Bool.false_eq_true, if_false] at hc
      refine rz_blk' [(.return_, 1, 0, 0)] (by decide +kernel) (Nat.le_refl _) (Nat.le_refl _) (fun K R hK hR => ?_)
      simp only [↓rx_nil, ↓rx_return_, ↓bl_ob, ↓bl_r71, ↓bl_i76, ↓bl_i77, ↓bl_i78, ↓bl_i79, ↓bl_r80, ↓bl_r81, rz_set, rz_nol, rz_clr, List.set_cons_zero, List.set_cons_succ, rz_tr, Nat.reduceAdd, Int.reduceAdd, Int.reduceToNat, Int.reduceSub, Int.reduceNeg, Int.cast_ofNat_Int]
      exact hR _ _ (rz_nb_i (by decide)) (hc A P b hS h3)
    have c : mo = true := by simpa using c
    rw [c] at hc
    simp only [if_true] at hc
    refine rz_cV (As := []) (b := a) (S := []) l_Bld_189 (by decide +kernel) rfl bl_at0 rfl (Nat.le_of_ble_eq_true rfl) (Nat.le_refl _) (Nat.le_refl _) (c_Bld_splitKinds hS) (fun r G' hr => ?_)
    obtain ⟨rfl, A2, P2, rfl, hS2, h32⟩ := hr
    simp only [Option.toList, List.cons_append, List.nil_append]
    have hcl := bk_c_le (bk_n kd af) 64
    generalize bk_c (bk_n kd af) 64 = cn at *
    refine rz_blk' [(.istore 4, 2, 0, 0)] (by decide +kernel) (Nat.le_refl _) (Nat.le_refl _) (fun K R hK hR => ?_)
    simp only [↓rx_istore, ↓rx_nil, ↓ry_i1, ↓bl_ob, ↓bl_r71, ↓bl_i76, ↓bl_i77, ↓bl_i78, ↓bl_i79, ↓bl_r80, ↓bl_r81, rz_set, rz_nol, rz_clr, List.set_cons_zero, List.set_cons_succ, rz_tr, Nat.reduceAdd, Int.reduceAdd, Int.reduceToNat, Int.reduceSub, Int.reduceNeg, Int.cast_ofNat_Int]
    refine hK _ _ _ _ ?_
    have hgo : ∀ v : Bool, v = decide (kn < cn) → rz_T w (d + 2) 0 0 m_Bld_findKinds 0 0 101 [some (.ref a), some (.int (nI kn)), some (.int (rz_b mo)), some (.int (nI t)), some (.int (nI cn))] [.int (rz_b v)] (mc_put (bo_put G a I A2 J X P2) (a + 1) Im Am Jm Xm Pm) Q := by
      intro v hv
      refine rz_blk' [(.istore_n 2, 1, 0, 0)] (by decide +kernel) (Nat.le_refl _) (Nat.le_refl _) (fun K R hK hR => ?_)
      simp only [↓rx_istore_n2, ↓rx_nil, ↓ry_i1, ↓bl_ob, ↓bl_r71, ↓bl_i76, ↓bl_i77, ↓bl_i78, ↓bl_i79, ↓bl_r80, ↓bl_r81, rz_set, rz_nol, rz_clr, List.set_cons_zero, List.set_cons_succ, rz_tr, Nat.reduceAdd, Int.reduceAdd, Int.reduceToNat, Int.reduceSub, Int.reduceNeg, Int.cast_ofNat_Int]
      refine hK _ _ _ _ ?_
      refine rz_blk' [(.iload 4, 2, 0, 0), (.istore_n 1, 1, 0, 0)] (by decide +kernel) (Nat.le_refl _) (Nat.le_refl _) (fun K R hK hR => ?_)
      simp only [↓rx_iload, ↓rx_istore_n1, ↓rx_nil, ↓ry_i1, ↓ry_li0s, ↓ry_li0z, ↓bl_ob, ↓bl_r71, ↓bl_i76, ↓bl_i77, ↓bl_i78, ↓bl_i79, ↓bl_r80, ↓bl_r81, rz_set, rz_nol, rz_clr, List.set_cons_zero, List.set_cons_succ, rz_tr, Nat.reduceAdd, Int.reduceAdd, Int.reduceToNat, Int.reduceSub, Int.reduceNeg, Int.cast_ofNat_Int]
      refine hK _ _ _ _ ?_
      refine rz_blk' [(.iinc 3 1, 3, 0, 0), (.goto (-34), 3, 0, 0)] (by decide +kernel) (Nat.le_refl _) (Nat.le_refl _) (fun K R hK hR => ?_)
      simp only [rw_c1, ↓rx_goto, ↓rx_iinc, ↓rx_nil, ↓ry_li0s, ↓ry_li0z, ↓bl_ob, ↓bl_r71, ↓bl_i76, ↓bl_i77, ↓bl_i78, ↓bl_i79, ↓bl_r80, ↓bl_r81, nI_add, rz_set, rz_nol, rz_clr, List.set_cons_zero, List.set_cons_succ, rz_tr, Nat.reduceAdd, Int.reduceAdd, Int.reduceToNat, Int.reduceSub, Int.reduceNeg, Int.cast_ofNat_Int]
      rw [hv]
      exact hK _ _ _ _ (ih (t + 1) _ cn _ (!b) A2 P2 _ (by omega) hcl hS2 (h32.trans h3) hc)
    refine rz_blk' [(.iload 4, 2, 0, 0), (.iload_n 1, 1, 0, 0), (.if_icmp .le 7, 3, 0, 0), (.iconst 1, 1, 0, 0), (.goto 4, 3, 0, 0)] (by decide +kernel) (Nat.le_refl _) (Nat.le_refl _) (fun K R hK hR => ?_)
    simp only [rw_c1, ↓rx_goto, ↓rx_iconst, ↓rx_if_icmp_le, ↓rx_iload, ↓rx_iload_n1, ↓rx_nil, ↓ry_i2, ↓ry_li0s, ↓ry_li0z, ↓bl_ob, ↓bl_r71, ↓bl_i76, ↓bl_i77, ↓bl_i78, ↓bl_i79, ↓bl_r80, ↓bl_r81, rz_set, rz_nol, rz_clr, List.set_cons_zero, List.set_cons_succ, rz_tr, Nat.reduceAdd, Int.reduceAdd, Int.reduceToNat, Int.reduceSub, Int.reduceNeg, Int.cast_ofNat_Int]
    rw [nI_leI (by omega) (by omega)]
    refine ⟨fun c4 => hK _ _ _ _ ?_, fun c4 => hK _ _ _ _ (hgo true (by simp; omega))⟩
    refine rz_blk' [(.iconst 0, 1, 0, 0)] (by decide +kernel) (Nat.le_refl _) (Nat.le_refl _) (fun K R hK hR => ?_)
    simp only [rw_c0, ↓rx_iconst, ↓rx_nil, ↓bl_ob, ↓bl_r71, ↓bl_i76, ↓bl_i77, ↓bl_i78, ↓bl_i79, ↓bl_r80, ↓bl_r81, rz_set, rz_nol, rz_clr, List.set_cons_zero, List.set_cons_succ, rz_tr, Nat.reduceAdd, Int.reduceAdd, Int.reduceToNat, Int.reduceSub, Int.reduceNeg, Int.cast_ofNat_Int]
    exact hK _ _ _ _ (hgo false (by simp; omega))
end BKF

set_option maxRecDepth 100000 in
set_option maxHeartbeats 4000000 in
/-- findKinds() -/
theorem c_Bld_findKinds {w : rz_w} {d : Nat} {G : rz_G} {a : Nat} {I : Nat → Int32} {A : Nat → Nat → Int32} {J : Nat → Nat → Int64} {X : Nat → List Nat} {P : Nat → Nat} {Im : Nat → Int32} {Am : Nat → Nat → Int32} {Jm : Nat → Nat → Int64} {Xm : Nat → List Nat} {Pm : Nat → Nat} {b : Bool} {em : mv_T} {ec : Nat} (hm : mv_is Im Am Xm em ec) (hs : mv_set Im Am em ec) (hP : P 0 = a + (76 + bk_a b)) (hP1 : P 1 = a + (76 + bk_a (!b))) : rz_C w (d + 2) 0 0 y_Bld_findKinds m_Bld_findKinds [.ref a] (mc_put (bo_put G a I A J X P) (a + 1) Im Am Jm Xm Pm) (fun r G' => r = none ∧ ∃ A' P' b', G' = (mc_put (bo_put G a I A' J X P') (a + 1) Im Am Jm Xm Pm) ∧ bk_st a A' P' b' (bk_kd em ec) (bk_af em ec) ∧ A' 3 = A 3) := by
  refine rz_enter' [some (.ref a), none, none, none, none] (by decide +kernel) rfl rfl (Nat.le_of_ble_eq_true rfl) rfl ?_
  refine rz_blk' [(.iconst 0, 1, 0, 0), (.istore_n 1, 1, 0, 0)] (by decide +kernel) (Nat.le_refl _) (Nat.le_refl _) (fun K R hK hR => ?_)
  simp only [rw_c0, ↓rx_iconst, ↓rx_istore_n1, ↓rx_nil, ↓ry_i1, ↓bl_ob, ↓bl_r71, ↓bl_i76, ↓bl_i77, ↓bl_i78, ↓bl_i79, ↓bl_r80, ↓bl_r81, rz_set, rz_nol, rz_clr, List.set_cons_zero, List.set_cons_succ, rz_tr, Nat.reduceAdd, Int.reduceAdd, Int.reduceToNat, Int.reduceSub, Int.reduceNeg, Int.cast_ofNat_Int]
  refine hK _ _ _ _ (bk_f_s (A3 := A 3) hm hs hP (fun A2 z1 z2 t1 t2 t3 => ?_) 64 0 A none rfl (fun i hi => by omega) (fun i l hi => by omega) rfl)
  refine rz_blk' [(.iconst 0, 1, 0, 0), (.istore_n 1, 1, 0, 0)] (by decide +kernel) (Nat.le_refl _) (Nat.le_refl _) (fun K R hK hR => ?_)
  simp only [rw_c0, ↓rx_iconst, ↓rx_istore_n1, ↓rx_nil, ↓ry_i1, ↓bl_ob, ↓bl_r71, ↓bl_i76, ↓bl_i77, ↓bl_i78, ↓bl_i79, ↓bl_r80, ↓bl_r81, rz_set, rz_nol, rz_clr, List.set_cons_zero, List.set_cons_succ, rz_tr, Nat.reduceAdd, Int.reduceAdd, Int.reduceToNat, Int.reduceSub, Int.reduceNeg, Int.cast_ofNat_Int]
  refine hK _ _ _ _ ?_
  refine rz_blk' [(.iconst 1, 1, 0, 0), (.istore_n 2, 1, 0, 0)] (by decide +kernel) (Nat.le_refl _) (Nat.le_refl _) (fun K R hK hR => ?_)
  simp only [rw_c1, ↓rx_iconst, ↓rx_istore_n2, ↓rx_nil, ↓ry_i1, ↓bl_ob, ↓bl_r71, ↓bl_i76, ↓bl_i77, ↓bl_i78, ↓bl_i79, ↓bl_r80, ↓bl_r81, rz_set, rz_nol, rz_clr, List.set_cons_zero, List.set_cons_succ, rz_tr, Nat.reduceAdd, Int.reduceAdd, Int.reduceToNat, Int.reduceSub, Int.reduceNeg, Int.cast_ofNat_Int]
  refine hK _ _ _ _ ?_
  refine rz_blk' [(.iconst 0, 1, 0, 0), (.istore_n 3, 1, 0, 0)] (by decide +kernel) (Nat.le_refl _) (Nat.le_refl _) (fun K R hK hR => ?_)
  simp only [rw_c0, ↓rx_iconst, ↓rx_istore_n3, ↓rx_nil, ↓ry_i1, ↓bl_ob, ↓bl_r71, ↓bl_i76, ↓bl_i77, ↓bl_i78, ↓bl_i79, ↓bl_r80, ↓bl_r81, rz_set, rz_nol, rz_clr, List.set_cons_zero, List.set_cons_succ, rz_tr, Nat.reduceAdd, Int.reduceAdd, Int.reduceToNat, Int.reduceSub, Int.reduceNeg, Int.cast_ofNat_Int]
  refine hK _ _ _ _ (bk_f_r (A3 := A 3) (af := bk_af em ec) 64 0 true 0 (bk_k0 em ec) b A2 P none rfl (by decide) ⟨hP, hP1, fun s hs => ⟨t1 s hs, by simp only [bk_k0]; split <;> decide⟩, fun s l hs hl => ⟨t2 s l hs hl, mv_ak64 hm _⟩⟩ t3 (fun A' P' b' u1 u2 => ⟨rfl, A', P', b', rfl, u1, u2⟩))

