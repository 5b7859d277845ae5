/-! WriterDesk$Builder: splitKinds, findKinds -/
def bk_fi (kd : Nat → Nat) (af : Nat → Nat → Nat) (s : Nat) : Nat → Nat → Nat
  | 0, f => f
  | k + 1, f => if bk_one kd af f s then f else bk_fi kd af s k (f + 1)
def bk_n (kd : Nat → Nat) (af : Nat → Nat → Nat) (s : Nat) : Nat := bk_fi kd af s s 0
def bk_c (kd : Nat → Nat) : Nat → Nat
  | 0 => 0
  | s + 1 => bk_c kd s + if kd s = s then 1 else 0
theorem bk_c_le (kd : Nat → Nat) : ∀ s, bk_c kd s ≤ s
  | 0 => Nat.le_refl _
  | s + 1 => by have := bk_c_le kd s; simp only [bk_c]; split <;> omega
theorem bk_fi_le {kd : Nat → Nat} {af : Nat → Nat → Nat} {s : Nat} : ∀ (k f : Nat), f + k = s → bk_fi kd af s k f ≤ s
  | 0, f, h => by simp only [bk_fi]; omega
  | k + 1, f, h => by
    simp only [bk_fi]; split
    · omega
    · exact bk_fi_le k (f + 1) (by omega)
section BKS
variable {w : rz_w} {d : Nat} {G : rz_G} {a : Nat} {I : Nat → Int32} {J : Nat → Nat → Int64} {X : Nat → List Nat} {P : Nat → Nat} {Im : Nat → Int32} {Am : Nat → Nat → Int32} {Jm : Nat → Nat → Int64} {Xm : Nat → List Nat} {Pm : Nat → Nat} {b : Bool} {kd : Nat → Nat} {af : Nat → Nat → Nat} {Q : Option Value → rz_G → Prop}
set_option maxRecDepth 100000 in
set_option maxHeartbeats 4000000 in
theorem bk_s_f {A : Nat → Nat → Int32} (hS : bk_st a A P b kd af) {s : Nat} (hs : s < 64) {x1 : Int32}
    (hc : rz_T w (d + 1) 0 0 m_Bld_splitKinds 0 0 32 [some (.ref a), some (.int x1), some (.int (nI s)), some (.int (nI (bk_n kd af s)))] [] (mc_put (bo_put G a I A J X P) (a + 1) Im Am Jm Xm Pm) Q) :
    ∀ (k f : Nat), f + k = s → bk_fi kd af s k f = bk_n kd af s → rz_T w (d + 1) 0 0 m_Bld_splitKinds 0 0 12 [some (.ref a), some (.int x1), some (.int (nI s)), some (.int (nI f))] [] (mc_put (bo_put G a I A J X P) (a + 1) Im Am Jm Xm Pm) Q := by
  intro k
  induction k with
  | zero =>
    intro f hk hf
    simp only [bk_fi] at hf
    refine rz_blk' [(.iload_n 3, 1, 0, 0), (.iload_n 2, 1, 0, 0), (.if_icmp .ge 18, 3, 0, 0)] (by decide +kernel) (Nat.le_refl _) (Nat.le_refl _) (fun K R hK hR => ?_)
    simp only [↓rx_if_icmp_ge, ↓rx_iload_n2, ↓rx_iload_n3, ↓rx_nil, ↓ry_i2, ↓ry_li0s, ↓ry_li0z, ↓bl_ob, ↓bl_r71, ↓bl_i76, ↓bl_i77, ↓bl_i78, ↓bl_i79, ↓bl_r80, ↓bl_r81, rz_set, rz_nol, rz_clr, List.set_cons_zero, List.set_cons_succ, rz_tr, Nat.reduceAdd, Int.reduceAdd, Int.reduceToNat, Int.reduceSub, Int.reduceNeg, Int.cast_ofNat_Int]
    rw [nI_leI (by omega) (by omega)]
    exact ⟨fun q => hK _ _ _ _ (by rw [← hf] at hc; exact hc), fun q => by omega⟩
  | succ k ih =>
    intro f hk hf
    simp only [bk_fi] at hf
    refine rz_blk' [(.iload_n 3, 1, 0, 0), (.iload_n 2, 1, 0, 0), (.if_icmp .ge 18, 3, 0, 0), (.aload_n 0, 1, 0, 0), (.iload_n 3, 1, 0, 0), (.iload_n 2, 1, 0, 0)] (by decide +kernel) (Nat.le_refl _) (Nat.le_refl _) (fun K R hK hR => ?_)
    simp only [↓rx_aload_n0, ↓rx_if_icmp_ge, ↓rx_iload_n2, ↓rx_iload_n3, ↓rx_nil, ↓ry_i2, ↓ry_li0s, ↓ry_li0z, ↓ry_lr0s, ↓ry_lr0z, ↓bl_ob, ↓bl_r71, ↓bl_i76, ↓bl_i77, ↓bl_i78, ↓bl_i79, ↓bl_r80, ↓bl_r81, rz_set, rz_nol, rz_clr, List.set_cons_zero, List.set_cons_succ, rz_tr, Nat.reduceAdd, Int.reduceAdd, Int.reduceToNat, Int.reduceSub, Int.reduceNeg, Int.cast_ofNat_Int]
    rw [nI_leI (by omega) (by omega)]
    refine ⟨fun q => by omega, fun q => hK _ _ _ _ ?_⟩
    refine rz_cV (As := [.int (nI f), .int (nI s)]) (b := a) (S := []) l_Bld_192 (by decide +kernel) rfl bl_at0 rfl (Nat.le_of_ble_eq_true rfl) (Nat.le_refl _) (Nat.le_refl _) (c_Bld_isOfOneKind hS (by omega) hs) (fun r G' hr => ?_)
    obtain ⟨rfl, hg⟩ := hr
    have hg := hg.symm
    subst hg
    simp only [Option.toList, List.cons_append, List.nil_append]
    by_cases c : bk_one kd af f s = true
    · rw [if_pos c] at hf
      rw [c]
      refine rz_blk' [(.ifCond .ne 9, 3, 0, 0)] (by decide +kernel) (Nat.le_refl _) (Nat.le_refl _) (fun K R hK hR => ?_)
      simp only [↓rx_ifCond_ne, ↓rx_nil, ↓ry_i1, ↓bl_ob, ↓bl_r71, ↓bl_i76, ↓bl_i77, ↓bl_i78, ↓bl_i79, ↓bl_r80, ↓bl_r81, rz_set, rz_nol, rz_clr, List.set_cons_zero, List.set_cons_succ, rz_tr, Nat.reduceAdd, Int.reduceAdd, Int.reduceToNat, Int.reduceSub, Int.reduceNeg, Int.cast_ofNat_Int]
      exact ⟨fun _ => hK _ _ _ _ (by rw [← hf] at hc; exact hc), fun z => absurd z (by decide)⟩
    · rw [if_neg c] at hf
      have c : bk_one kd af f s = false := by simpa using c
      rw [c]
      refine rz_blk' [(.ifCond .ne 9, 3, 0, 0), (.iinc 3 1, 3, 0, 0), (.goto (-17), 3, 0, 0)] (by decide +kernel) (Nat.le_refl _) (Nat.le_refl _) (fun K R hK hR => ?_)
      simp only [rw_c1, ↓rx_goto, ↓rx_ifCond_ne, ↓rx_iinc, ↓rx_nil, ↓ry_i1, ↓ry_li0s, ↓ry_li0z, ↓bl_ob, ↓bl_r71, ↓bl_i76, ↓bl_i77, ↓bl_i78, ↓bl_i79, ↓bl_r80, ↓bl_r81, nI_add, rz_set, rz_nol, rz_clr, List.set_cons_zero, List.set_cons_succ, rz_tr, Nat.reduceAdd, Int.reduceAdd, Int.reduceToNat, Int.reduceSub, Int.reduceNeg, Int.cast_ofNat_Int]
      exact ⟨fun z => absurd rfl z, fun _ => hK _ _ _ _ (ih (f + 1) (by omega) hf)⟩

set_option maxRecDepth 100000 in
set_option maxHeartbeats 4000000 in
theorem bk_s_s {A3 : Nat → Int32} (hc : ∀ A x2 x3, bk_st a A P b kd af → (∀ i, i < 64 → A (bk_a (!b)) i = nI (bk_n kd af i)) → A 3 = A3 → rz_T w (d + 1) 0 0 m_Bld_splitKinds 0 0 53 [some (.ref a), some (.int (nI (bk_c (bk_n kd af) 64))), some (.int x2), x3] [] (mc_put (bo_put G a I A J X P) (a + 1) Im Am Jm Xm Pm) Q) :
    ∀ (k s : Nat) (A : Nat → Nat → Int32) (z3 : Option Value), s + k = 64 → bk_st a A P b kd af → (∀ i, i < s → A (bk_a (!b)) i = nI (bk_n kd af i)) → A 3 = A3 → rz_T w (d + 1) 0 0 m_Bld_splitKinds 0 0 4 [some (.ref a), some (.int (nI (bk_c (bk_n kd af) s))), some (.int (nI s)), z3] [] (mc_put (bo_put G a I A J X P) (a + 1) Im Am Jm Xm Pm) Q := by
  intro k
  induction k with
  | zero =>
    intro s A z3 hk hS hf h3
    refine rz_blk' [(.iload_n 2, 1, 0, 0), (.bipush 64, 2, 0, 0), (.if_icmp .ge 46, 3, 0, 0)] (by decide +kernel) (Nat.le_refl _) (Nat.le_refl _) (fun K R hK hR => ?_)
    simp only [rw_b64, ↓rx_bipush, ↓rx_if_icmp_ge, ↓rx_iload_n2, ↓rx_nil, ↓ry_i2, ↓ry_li0s, ↓ry_li0z, ↓bl_ob, ↓bl_r71, ↓bl_i76, ↓bl_i77, ↓bl_i78, ↓bl_i79, ↓bl_r80, ↓bl_r81, rz_set, rz_nol, rz_clr, List.set_cons_zero, List.set_cons_succ, rz_tr, Nat.reduceAdd, Int.reduceAdd, Int.reduceToNat, Int.reduceSub, Int.reduceNeg, Int.cast_ofNat_Int]
    rw [nI_leI (by omega) (by omega)]
    have : s = 64 := by omega
    subst this
    exact ⟨fun q => hK _ _ _ _ (hc A _ _ hS hf h3), fun q => by omega⟩
  | succ k ih =>
    intro s A z3 hk hS hf h3
    obtain ⟨s1, s2, s3, s4⟩ := id hS
    have hcl := bk_c_le (bk_n kd af) s
    refine rz_blk' [(.iload_n 2, 1, 0, 0), (.bipush 64, 2, 0, 0), (.if_icmp .ge 46, 3, 0, 0), (.iconst 0, 1, 0, 0), (.istore_n 3, 1, 0, 0)] (by decide +kernel) (Nat.le_refl _) (Nat.le_refl _) (fun K R hK hR => ?_)
    simp only [rw_b64, rw_c0, ↓rx_bipush, ↓rx_iconst, ↓rx_if_icmp_ge, ↓rx_iload_n2, ↓rx_istore_n3, ↓rx_nil, ↓ry_i1, ↓ry_i2, ↓ry_li0s, ↓ry_li0z, ↓bl_ob, ↓bl_r71, ↓bl_i76, ↓bl_i77, ↓bl_i78, ↓bl_i79, ↓bl_r80, ↓bl_r81, rz_set, rz_nol, rz_clr, List.set_cons_zero, List.set_cons_succ, rz_tr, Nat.reduceAdd, Int.reduceAdd, Int.reduceToNat, Int.reduceSub, Int.reduceNeg, Int.cast_ofNat_Int]
    rw [nI_leI (by omega) (by omega)]
    refine ⟨fun q => by omega, fun q => hK _ _ _ _ ?_⟩
    have hk1 : (mc_put (bo_put G a I A J X P) (a + 1) Im Am Jm Xm Pm) (P 1) = some (.inl (0, 64, .inl (A (bk_a (!b))))) := by rw [s2]; exact bl_ck
    refine bk_s_f hS (by omega) ?_ s 0 (by omega) rfl
    refine rz_blk' [(.aload_n 0, 1, 0, 0), (.getfield 41, 3, 8, 7), (.iload_n 2, 1, 0, 0), (.iload_n 3, 1, 0, 0), (.iastore, 1, 0, 0)] (by decide +kernel) (Nat.le_refl _) (Nat.le_refl _) (fun K R hK hR => ?_)
    simp only [↓rx_aload_n0, ↓rx_getfield, ↓rx_iastore, ↓rx_iload_n2, ↓rx_iload_n3, ↓rx_nil, ↓ry_fvs, ↓ry_fvz, ↓ry_iau, ↓ry_li0s, ↓ry_li0z, ↓ry_lr0s, ↓ry_lr0z, ↓ry_obu, ↓ry_r1, ↓ry_rii, true_and, ↓bl_ob, ↓bl_r71, ↓bl_i76, ↓bl_i77, ↓bl_i78, ↓bl_i79, ↓bl_r80, ↓bl_r81, ↓rh_ia hk1, rz_set, rz_nol, rz_clr, List.set_cons_zero, List.set_cons_succ, rz_tr, Nat.reduceAdd, Int.reduceAdd, Int.reduceToNat, Int.reduceSub, Int.reduceNeg, Int.cast_ofNat_Int]
    rw [nI_clamp (by omega), s2, bl_ak]
    refine ⟨vp_in_nI (by omega) (by decide), hK _ _ _ _ ?_⟩
    have hne : bk_a b ≠ bk_a (!b) := by cases b <;> decide
    have hn0 : 0 ≠ bk_a (!b) := by cases b <;> decide
    have hn3 : 3 ≠ bk_a (!b) := by cases b <;> decide
    generalize hA2 : va_up A (bk_a (!b)) _ = A2
    have hS2 : bk_st a A2 P b kd af := by
      refine ⟨s1, s2, ?_, ?_⟩
      · rw [← hA2, va_up_ne _ _ hne]; exact s3
      · rw [← hA2, va_up_ne _ _ hn0]; exact s4
    have hf2 : ∀ i, i < s + 1 → A2 (bk_a (!b)) i = nI (bk_n kd af i) := by
      intro i hi
      rw [← hA2, va_up_self]
      by_cases c : i = s
      · subst c; exact pk_us
      · rw [pk_un c]; exact hf i (by omega)
    have h32 : A2 3 = A3 := by rw [← hA2, va_up_ne _ _ hn3]; exact h3
    have hle := bk_fi_le (kd := kd) (af := af) (s := s) s 0 (by omega)
    change bk_n kd af s ≤ s at hle
    have hnext : ∀ x : Nat, x = bk_c (bk_n kd af) (s + 1) → rz_T w (d + 1) 0 0 m_Bld_splitKinds 0 0 47 [some (.ref a), some (.int (nI x)), some (.int (nI s)), some (.int (nI (bk_n kd af s)))] [] (mc_put (bo_put G a I A2 J X P) (a + 1) Im Am Jm Xm Pm) Q := by
      intro x hx
      refine rz_blk' [(.iinc 2 1, 3, 0, 0), (.goto (-46), 3, 0, 0)] (by decide +kernel) (Nat.le_refl _) (Nat.le_refl _) (fun K R hK hR => ?_)
      simp only [rw_c1, ↓rx_goto, ↓rx_iinc, ↓rx_nil, ↓ry_li0s, ↓ry_li0z, ↓bl_ob, ↓bl_r71, ↓bl_i76, ↓bl_i77, ↓bl_i78, ↓bl_i79, ↓bl_r80, ↓bl_r81, nI_add, rz_set, rz_nol, rz_clr, List.set_cons_zero, List.set_cons_succ, rz_tr, Nat.reduceAdd, Int.reduceAdd, Int.reduceToNat, Int.reduceSub, Int.reduceNeg, Int.cast_ofNat_Int]
      rw [hx]
      exact hK _ _ _ _ (ih (s + 1) A2 _ (by omega) hS2 hf2 h32)
    refine rz_blk' [(.iload_n 3, 1, 0, 0), (.iload_n 2, 1, 0, 0), (.if_icmp .ne 6, 3, 0, 0), (.iinc 1 1, 3, 0, 0)] (by decide +kernel) (Nat.le_refl _) (Nat.le_refl _) (fun K R hK hR => ?_)
    simp only [rw_c1, ↓rx_if_icmp_ne, ↓rx_iinc, ↓rx_iload_n2, ↓rx_iload_n3, ↓rx_nil, ↓ry_i2, ↓ry_li0s, ↓ry_li0z, ↓bl_ob, ↓bl_r71, ↓bl_i76, ↓bl_i77, ↓bl_i78, ↓bl_i79, ↓bl_r80, ↓bl_r81, nI_add, rz_set, rz_nol, rz_clr, List.set_cons_zero, List.set_cons_succ, rz_tr, Nat.reduceAdd, Int.reduceAdd, Int.reduceToNat, Int.reduceSub, Int.reduceNeg, Int.cast_ofNat_Int]
    rw [nI_eq (by omega) (by omega)]
    refine ⟨fun c => hK _ _ _ _ (hnext _ (by simp only [bk_c]; rw [if_neg c]; rfl)), fun c => hK _ _ _ _ (hnext _ (by simp only [bk_c]; rw [if_pos c]))⟩
end BKS

set_option maxRecDepth 100000 in
set_option maxHeartbeats 4000000 in
/-- splitKinds() -/
theorem c_Bld_splitKinds {w : rz_w} {d : Nat} {G : rz_G} {a : Nat} {I : Nat → Int32} {A : Nat → Nat → Int32} {J : Nat → Nat → Int64} {X : Nat → List Nat} {P : Nat → Nat} {Im : Nat → Int32} {Am : Nat → Nat → Int32} {Jm : Nat → Nat → Int64} {Xm : Nat → List Nat} {Pm : Nat → Nat} {b : Bool} {kd : Nat → Nat} {af : Nat → Nat → Nat} (hS : bk_st a A P b kd af) : rz_C w (d + 1) 0 0 y_Bld_splitKinds m_Bld_splitKinds [.ref a] (mc_put (bo_put G a I A J X P) (a + 1) Im Am Jm Xm Pm) (fun r G' => r = some (.int (nI (bk_c (bk_n kd af) 64))) ∧ ∃ A' P', G' = (mc_put (bo_put G a I A' J X P') (a + 1) Im Am Jm Xm Pm) ∧ bk_st a A' P' (!b) (bk_n kd af) af ∧ A' 3 = A 3) := by
  refine rz_enter' [some (.ref a), none, none, none] (by decide +kernel) rfl rfl (Nat.le_of_ble_eq_true rfl) rfl ?_
  refine rz_blk' [(.iconst 0, 1, 0, 0), (.istore_n 1, 1, 0, 0)] (by decide +kernel) (Nat.le_refl _) (Nat.le_refl _) (fun K R hK hR => ?_)
  simp only [rw_c0, ↓rx_iconst, ↓rx_istore_n1, ↓rx_nil, ↓ry_i1, ↓bl_ob, ↓bl_r71, ↓bl_i76, ↓bl_i77, ↓bl_i78, ↓bl_i79, ↓bl_r80, ↓bl_r81, rz_set, rz_nol, rz_clr, List.set_cons_zero, List.set_cons_succ, rz_tr, Nat.reduceAdd, Int.reduceAdd, Int.reduceToNat, Int.reduceSub, Int.reduceNeg, Int.cast_ofNat_Int]
  refine hK _ _ _ _ ?_
  refine rz_blk' [(.iconst 0, 1, 0, 0), (.istore_n 2, 1, 0, 0)] (by decide +kernel) (Nat.le_refl _) (Nat.le_refl _) (fun K R hK hR => ?_)
  simp only [rw_c0, ↓rx_iconst, ↓rx_istore_n2, ↓rx_nil, ↓ry_i1, ↓bl_ob, ↓bl_r71, ↓bl_i76, ↓bl_i77, ↓bl_i78, ↓bl_i79, ↓bl_r80, ↓bl_r81, rz_set, rz_nol, rz_clr, List.set_cons_zero, List.set_cons_succ, rz_tr, Nat.reduceAdd, Int.reduceAdd, Int.reduceToNat, Int.reduceSub, Int.reduceNeg, Int.cast_ofNat_Int]
  refine hK _ _ _ _ (bk_s_s (A3 := A 3) (fun A2 x2 x3 hS2 hf2 h32 => ?_) 64 0 A none rfl hS (fun i hi => by omega) rfl)
  obtain ⟨s1, s2, s3, s4⟩ := id hS2
  refine rz_blk' [(.aload_n 0, 1, 0, 0), (.getfield 38, 3, 8, 6), (.astore_n 2, 1, 0, 0)] (by decide +kernel) (Nat.le_refl _) (Nat.le_refl _) (fun K R hK hR => ?_)
  simp only [↓rx_aload_n0, ↓rx_astore_n2, ↓rx_getfield, ↓rx_nil, ↓ry_fvs, ↓ry_fvz, ↓ry_lr0s, ↓ry_lr0z, ↓ry_obu, ↓ry_r1, ↓bl_ob, ↓bl_r71, ↓bl_i76, ↓bl_i77, ↓bl_i78, ↓bl_i79, ↓bl_r80, ↓bl_r81, rz_set, rz_nol, rz_clr, List.set_cons_zero, List.set_cons_succ, rz_tr, Nat.reduceAdd, Int.reduceAdd, Int.reduceToNat, Int.reduceSub, Int.reduceNeg, Int.cast_ofNat_Int]
  refine hK _ _ _ _ ?_
  refine rz_blk' [(.aload_n 0, 1, 0, 0), (.aload_n 0, 1, 0, 0), (.getfield 41, 3, 8, 7), (.putfield 38, 3, 8, 6)] (by decide +kernel) (Nat.le_refl _) (Nat.le_refl _) (fun K R hK hR => ?_)
  simp only [List.length_cons, List.length_nil, Nat.reduceLT, rf_8_6, ↓rx_aload_n0, ↓rx_getfield, ↓rx_nil, ↓rx_putfield, ↓ry_fvs, ↓ry_fvz, ↓ry_lr0s, ↓ry_lr0z, ↓ry_obu, ↓ry_r1, ↓ry_vr, true_and, ↓bl_ob, ↓bl_r71, ↓bl_i76, ↓bl_i77, ↓bl_i78, ↓bl_i79, ↓bl_r80, ↓bl_r81, bl_u6, rz_set, rz_nol, rz_clr, List.set_cons_zero, List.set_cons_succ, rz_tr, Nat.reduceAdd, Int.reduceAdd, Int.reduceToNat, Int.reduceSub, Int.reduceNeg, Int.cast_ofNat_Int]
  refine hK _ _ _ _ ?_
  refine rz_blk' [(.aload_n 0, 1, 0, 0), (.aload_n 2, 1, 0, 0), (.putfield 41, 3, 8, 7)] (by decide +kernel) (Nat.le_refl _) (Nat.le_refl _) (fun K R hK hR => ?_)
  simp only [List.length_cons, List.length_nil, Nat.reduceLT, rf_8_7, ↓rx_aload_n0, ↓rx_aload_n2, ↓rx_nil, ↓rx_putfield, ↓ry_lr0s, ↓ry_lr0z, ↓ry_obu, ↓ry_vr, true_and, ↓bl_ob, ↓bl_r71, ↓bl_i76, ↓bl_i77, ↓bl_i78, ↓bl_i79, ↓bl_r80, ↓bl_r81, bl_u7, rz_set, rz_nol, rz_clr, List.set_cons_zero, List.set_cons_succ, rz_tr, Nat.reduceAdd, Int.reduceAdd, Int.reduceToNat, Int.reduceSub, Int.reduceNeg, Int.cast_ofNat_Int]
  refine hK _ _ _ _ ?_
  refine rz_blk' [(.iload_n 1, 1, 0, 0), (.ireturn, 1, 0, 0)] (by decide +kernel) (Nat.le_refl _) (Nat.le_refl _) (fun K R hK hR => ?_)
  simp only [↓rx_iload_n1, ↓rx_ireturn, ↓rx_nil, ↓ry_li0s, ↓ry_li0z, ↓bl_ob, ↓bl_r71, ↓bl_i76, ↓bl_i77, ↓bl_i78, ↓bl_i79, ↓bl_r80, ↓bl_r81, rz_set, rz_nol, rz_clr, List.set_cons_zero, List.set_cons_succ, rz_tr, Nat.reduceAdd, Int.reduceAdd, Int.reduceToNat, Int.reduceSub, Int.reduceNeg, Int.cast_ofNat_Int]
  refine hR _ _ (rz_nb_i (by decide)) ⟨rfl, A2, _, rfl, ⟨?_, ?_, fun s hs => ⟨hf2 s hs, ?_⟩, s4⟩, h32⟩
  · rw [va_up_ne _ _ (by decide), va_up_self]; exact s2
  · rw [va_up_self, Bool.not_not]; exact s1
  · have := bk_fi_le (kd := kd) (af := af) (s := s) s 0 (by omega)
    change bk_n kd af s ≤ s at this
    omega

