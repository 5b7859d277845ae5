/-! WriterDesk$Builder: isOfOneKind, splitKinds -/
def bk_a (b : Bool) : Nat := if b then 2 else 1
def bk_st (a : Nat) (A : Nat → Nat → Int32) (P : Nat → Nat) (b : Bool) (kd : Nat → Nat) (af : Nat → Nat → Nat) : Prop :=
  P 0 = a + (76 + bk_a b) ∧ P 1 = a + (76 + bk_a (!b)) ∧ (∀ s, s < 64 → A (bk_a b) s = nI (kd s) ∧ kd s < 64) ∧ ∀ s l, s < 64 → l < 3 → A 0 (s * 3 + l) = nI (af s l) ∧ af s l < 64
theorem bl_ck {G : rz_G} {a : Nat} {I : Nat → Int32} {A : Nat → Nat → Int32} {J : Nat → Nat → Int64} {X : Nat → List Nat} {P : Nat → Nat} {Im : Nat → Int32} {Am : Nat → Nat → Int32} {Jm : Nat → Nat → Int64} {Xm : Nat → List Nat} {Pm : Nat → Nat} {b : Bool} : (mc_put (bo_put G a I A J X P) (a + 1) Im Am Jm Xm Pm) (a + (76 + bk_a b)) = some (.inl (0, 64, .inl (A (bk_a b)))) := by
  cases b
  · exact bl_c77
  · exact bl_c78
theorem bl_ak {G : rz_G} {a : Nat} {I : Nat → Int32} {A : Nat → Nat → Int32} {J : Nat → Nat → Int64} {X : Nat → List Nat} {P : Nat → Nat} {Im : Nat → Int32} {Am : Nat → Nat → Int32} {Jm : Nat → Nat → Int64} {Xm : Nat → List Nat} {Pm : Nat → Nat} {b : Bool} {g : Nat → Int32} : rz_up (mc_put (bo_put G a I A J X P) (a + 1) Im Am Jm Xm Pm) (a + (76 + bk_a b)) (.inl (0, 64, .inl g)) = (mc_put (bo_put G a I (va_up A (bk_a b) g) J X P) (a + 1) Im Am Jm Xm Pm) := by
  cases b
  · exact bl_a77
  · exact bl_a78
def bk_ol (kd : Nat → Nat) (af : Nat → Nat → Nat) (s t : Nat) : Nat → Nat → Bool
  | 0, _ => true
  | k + 1, l => decide (kd (af s l) = kd (af t l)) && bk_ol kd af s t k (l + 1)
def bk_one (kd : Nat → Nat) (af : Nat → Nat → Nat) (s t : Nat) : Bool := decide (kd s = kd t) && bk_ol kd af s t 3 0
set_option maxRecDepth 100000 in
set_option maxHeartbeats 4000000 in
theorem bk_o_l {w : rz_w} {d : Nat} {G : rz_G} {a : Nat} {I : Nat → Int32} {A : Nat → Nat → Int32} {J : Nat → Nat → Int64} {X : Nat → List Nat} {P : Nat → Nat} {Im : Nat → Int32} {Am : Nat → Nat → Int32} {Jm : Nat → Nat → Int64} {Xm : Nat → List Nat} {Pm : Nat → Nat} {b : Bool} {kd : Nat → Nat} {af : Nat → Nat → Nat} {s t : Nat} (hS : bk_st a A P b kd af) (hs : s < 64) (ht : t < 64) {Q : Option Value → rz_G → Prop} :
    ∀ (k l : Nat) (c : Bool), l + k = 3 → Q (some (.int (rz_b (c && bk_ol kd af s t k l)))) (mc_put (bo_put G a I A J X P) (a + 1) Im Am Jm Xm Pm) → rz_T w d 0 0 m_Bld_isOfOneKind 0 0 24 [some (.ref a), some (.int (nI s)), some (.int (nI t)), some (.int (rz_b c)), some (.int (nI l))] [] (mc_put (bo_put G a I A J X P) (a + 1) Im Am Jm Xm Pm) Q := by
  obtain ⟨s1, s2, s3, s4⟩ := id hS
  have hk0 : (mc_put (bo_put G a I A J X P) (a + 1) Im Am Jm Xm Pm) (P 0) = some (.inl (0, 64, .inl (A (bk_a b)))) := by rw [s1]; exact bl_ck
  have hret : ∀ (c : Bool) l, Q (some (.int (rz_b c))) (mc_put (bo_put G a I A J X P) (a + 1) Im Am Jm Xm Pm) → rz_T w d 0 0 m_Bld_isOfOneKind 0 0 81 [some (.ref a), some (.int (nI s)), some (.int (nI t)), some (.int (rz_b c)), some (.int (nI l))] [] (mc_put (bo_put G a I A J X P) (a + 1) Im Am Jm Xm Pm) Q := by
    intro c l hq
    refine rz_blk' [(.iload_n 3, 1, 0, 0), (.ireturn, 1, 0, 0)] (by decide +kernel) (Nat.le_refl _) (Nat.le_refl _) (fun K R hK hR => ?_)
    simp only [↓rx_iload_n3, ↓rx_ireturn, ↓rx_nil, ↓ry_li0s, ↓ry_li0z, ↓bl_ob, ↓bl_r71, ↓bl_i76, ↓bl_i77, ↓bl_i78, ↓bl_i79, ↓bl_r80, ↓bl_r81, rz_set, rz_nol, rz_clr, List.set_cons_zero, List.set_cons_succ, rz_tr, Nat.reduceAdd, Int.reduceAdd, Int.reduceToNat, Int.reduceSub, Int.reduceNeg, Int.cast_ofNat_Int]
    exact hR _ _ rz_b_nb hq
  intro k
  induction k with
  | zero =>
    intro l c hk hq
    simp only [bk_ol, Bool.and_true] at hq
    refine rz_blk' [(.iload_n 3, 1, 0, 0), (.ifCond .eq 56, 3, 0, 0), (.iload 4, 2, 0, 0), (.iconst 3, 1, 0, 0), (.if_icmp .ge 50, 3, 0, 0)] (by decide +kernel) (Nat.le_refl _) (Nat.le_refl _) (fun K R hK hR => ?_)
    simp only [rw_c3, ↓rx_iconst, ↓rx_ifCond_eq, ↓rx_if_icmp_ge, ↓rx_iload, ↓rx_iload_n3, ↓rx_nil, ↓ry_i1, ↓ry_i2, ↓ry_li0s, ↓ry_li0z, ↓bl_ob, ↓bl_r71, ↓bl_i76, ↓bl_i77, ↓bl_i78, ↓bl_i79, ↓bl_r80, ↓bl_r81, rz_set, rz_nol, rz_clr, List.set_cons_zero, List.set_cons_succ, rz_tr, Nat.reduceAdd, Int.reduceAdd, Int.reduceToNat, Int.reduceSub, Int.reduceNeg, Int.cast_ofNat_Int]
    rw [nI_leI (by omega) (by omega)]
    exact ⟨fun _ => hK _ _ _ _ (hret c l hq), fun _ => ⟨fun _ => hK _ _ _ _ (hret c l hq), fun q => by omega⟩⟩
  | succ k ih =>
    intro l c hk hq
    obtain ⟨a1, a2⟩ := s4 s l hs (by omega)
    obtain ⟨b1, b2⟩ := s4 t l ht (by omega)
    obtain ⟨c1, c2⟩ := s3 _ a2
    obtain ⟨d1, d2⟩ := s3 _ b2
    refine rz_blk' [(.iload_n 3, 1, 0, 0), (.ifCond .eq 56, 3, 0, 0), (.iload 4, 2, 0, 0), (.iconst 3, 1, 0, 0), (.if_icmp .ge 50, 3, 0, 0), (.aload_n 0, 1, 0, 0), (.getfield 38, 3, 8, 6), (.aload_n 0, 1, 0, 0), (.getfield 34, 3, 8, 5), (.iload_n 1, 1, 0, 0), (.iconst 3, 1, 0, 0), (.imul, 1, 0, 0), (.iload 4, 2, 0, 0), (.iadd, 1, 0, 0), (.iaload, 1, 0, 0), (.iaload, 1, 0, 0), (.aload_n 0, 1, 0, 0), (.getfield 38, 3, 8, 6), (.aload_n 0, 1, 0, 0), (.getfield 34, 3, 8, 5), (.iload_n 2, 1, 0, 0), (.iconst 3, 1, 0, 0), (.imul, 1, 0, 0), (.iload 4, 2, 0, 0), (.iadd, 1, 0, 0), (.iaload, 1, 0, 0), (.iaload, 1, 0, 0), (.if_icmp .ne 7, 3, 0, 0), (.iconst 1, 1, 0, 0), (.goto 4, 3, 0, 0)] (by decide +kernel) (Nat.le_refl _) (Nat.le_refl _) (fun K R hK hR => ?_)
    simp only [rw_c1, rw_c3, ↓rx_aload_n0, ↓rx_getfield, ↓rx_goto, ↓rx_iadd, ↓rx_iaload, ↓rx_iconst, ↓rx_ifCond_eq, ↓rx_if_icmp_ge, ↓rx_if_icmp_ne, ↓rx_iload, ↓rx_iload_n1, ↓rx_iload_n2, ↓rx_iload_n3, ↓rx_imul, ↓rx_nil, ↓ry_fvs, ↓ry_fvz, ↓ry_i1, ↓ry_i2, ↓ry_iau, ↓ry_li0s, ↓ry_li0z, ↓ry_lr0s, ↓ry_lr0z, ↓ry_obu, ↓ry_r1, ↓ry_ri, true_and, ↓bl_ob, ↓bl_r71, ↓bl_i76, ↓bl_i77, ↓bl_i78, ↓bl_i79, ↓bl_r80, ↓bl_r81, ↓rh_ia hk0, pk_mul, nI_add, rz_set, rz_nol, rz_clr, List.set_cons_zero, List.set_cons_succ, rz_tr, Nat.reduceAdd, Int.reduceAdd, Int.reduceToNat, Int.reduceSub, Int.reduceNeg, Int.cast_ofNat_Int]
    rw [rz_b_0, nI_leI (by omega) (by omega), nI_clamp (n := s * 3 + l) (by omega), a1, nI_clamp (n := t * 3 + l) (by omega), b1, nI_clamp (n := af s l) (by omega), nI_clamp (n := af t l) (by omega), c1, d1, nI_eq (by omega) (by omega)]
    refine ⟨fun q => hK _ _ _ _ (hret c l ?_), fun q => ⟨fun q2 => by omega, fun q2 => ⟨vp_in_nI (by omega) (by decide), vp_in_nI (by omega) (by decide), vp_in_nI (by omega) (by decide), vp_in_nI (by omega) (by decide), fun q3 => hK _ _ _ _ ?_, fun q3 => hK _ _ _ _ ?_⟩⟩⟩
    · rw [q, Bool.false_and] at hq; rw [q]; exact hq
    · have q : c = true := by simpa using q
      refine rz_blk' [(.iconst 0, 1, 0, 0), (.istore_n 3, 1, 0, 0)] (by decide +kernel) (Nat.le_refl _) (Nat.le_refl _) (fun K R hK hR => ?_)
      simp only [rw_c0, ↓rx_iconst, ↓rx_istore_n3, ↓rx_nil, ↓ry_i1, ↓bl_ob, ↓bl_r71, ↓bl_i76, ↓bl_i77, ↓bl_i78, ↓bl_i79, ↓bl_r80, ↓bl_r81, rz_set, rz_nol, rz_clr, List.set_cons_zero, List.set_cons_succ, rz_tr, Nat.reduceAdd, Int.reduceAdd, Int.reduceToNat, Int.reduceSub, Int.reduceNeg, Int.cast_ofNat_Int]
      refine hK _ _ _ _ ?_
      refine rz_blk' [(.iinc 4 1, 3, 0, 0), (.goto (-54), 3, 0, 0)] (by decide +kernel) (Nat.le_refl _) (Nat.le_refl _) (fun K R hK hR => ?_)
      simp only [rw_c1, ↓rx_goto, ↓rx_iinc, ↓rx_nil, ↓ry_li0s, ↓ry_li0z, ↓bl_ob, ↓bl_r71, ↓bl_i76, ↓bl_i77, ↓bl_i78, ↓bl_i79, ↓bl_r80, ↓bl_r81, nI_add, rz_set, rz_nol, rz_clr, List.set_cons_zero, List.set_cons_succ, rz_tr, Nat.reduceAdd, Int.reduceAdd, Int.reduceToNat, Int.reduceSub, Int.reduceNeg, Int.cast_ofNat_Int]
      have e : (c && bk_ol kd af s t (k + 1) l) = (false && bk_ol kd af s t k (l + 1)) := by simp [bk_ol, q3]
      rw [e] at hq
      exact hK _ _ _ _ (ih (l + 1) false (by omega) hq)
    · have q : c = true := by simpa using q
      refine rz_blk' [(.istore_n 3, 1, 0, 0)] (by decide +kernel) (Nat.le_refl _) (Nat.le_refl _) (fun K R hK hR => ?_)
      simp only [↓rx_istore_n3, ↓rx_nil, ↓ry_i1, ↓bl_ob, ↓bl_r71, ↓bl_i76, ↓bl_i77, ↓bl_i78, ↓bl_i79, ↓bl_r80, ↓bl_r81, rz_set, rz_nol, rz_clr, List.set_cons_zero, List.set_cons_succ, rz_tr, Nat.reduceAdd, Int.reduceAdd, Int.reduceToNat, Int.reduceSub, Int.reduceNeg, Int.cast_ofNat_Int]
      refine hK _ _ _ _ ?_
      refine rz_blk' [(.iinc 4 1, 3, 0, 0), (.goto (-54), 3, 0, 0)] (by decide +kernel) (Nat.le_refl _) (Nat.le_refl _) (fun K R hK hR => ?_)
      simp only [rw_c1, ↓rx_goto, ↓rx_iinc, ↓rx_nil, ↓ry_li0s, ↓ry_li0z, ↓bl_ob, ↓bl_r71, ↓bl_i76, ↓bl_i77, ↓bl_i78, ↓bl_i79, ↓bl_r80, ↓bl_r81, nI_add, rz_set, rz_nol, rz_clr, List.set_cons_zero, List.set_cons_succ, rz_tr, Nat.reduceAdd, Int.reduceAdd, Int.reduceToNat, Int.reduceSub, Int.reduceNeg, Int.cast_ofNat_Int]
      have e : (c && bk_ol kd af s t (k + 1) l) = (true && bk_ol kd af s t k (l + 1)) := by simp [bk_ol, q3, q]
      rw [e] at hq
      exact hK _ _ _ _ (ih (l + 1) true (by omega) hq)

set_option maxRecDepth 100000 in
set_option maxHeartbeats 4000000 in
/-- isOfOneKind(one, two) -/
theorem c_Bld_isOfOneKind {w : rz_w} {d : Nat} {G : rz_G} {a : Nat} {I : Nat → Int32} {A : Nat → Nat → Int32} {J : Nat → Nat → Int64} {X : Nat → List Nat} {P : Nat → Nat} {Im : Nat → Int32} {Am : Nat → Nat → Int32} {Jm : Nat → Nat → Int64} {Xm : Nat → List Nat} {Pm : Nat → Nat} {b : Bool} {kd : Nat → Nat} {af : Nat → Nat → Nat} {s t : Nat} (hS : bk_st a A P b kd af) (hs : s < 64) (ht : t < 64) : rz_C w d 0 0 y_Bld_isOfOneKind m_Bld_isOfOneKind [.ref a, .int (nI s), .int (nI t)] (mc_put (bo_put G a I A J X P) (a + 1) Im Am Jm Xm Pm) (fun r G' => r = some (.int (rz_b (bk_one kd af s t))) ∧ G' = (mc_put (bo_put G a I A J X P) (a + 1) Im Am Jm Xm Pm)) := by
  obtain ⟨s1, s2, s3, s4⟩ := id hS
  have hk0 : (mc_put (bo_put G a I A J X P) (a + 1) Im Am Jm Xm Pm) (P 0) = some (.inl (0, 64, .inl (A (bk_a b)))) := by rw [s1]; exact bl_ck
  have hgo : ∀ c : Bool, c = decide (kd s = kd t) → rz_T w d 0 0 m_Bld_isOfOneKind 0 0 20 [some (.ref a), some (.int (nI s)), some (.int (nI t)), none, none] [.int (rz_b c)] (mc_put (bo_put G a I A J X P) (a + 1) Im Am Jm Xm Pm) (fun r G' => r = some (.int (rz_b (bk_one kd af s t))) ∧ G' = (mc_put (bo_put G a I A J X P) (a + 1) Im Am Jm Xm Pm)) := by
    intro c hc
    refine rz_blk' [(.istore_n 3, 1, 0, 0)] (by decide +kernel) (Nat.le_refl _) (Nat.le_refl _) (fun K R hK hR => ?_)
    simp only [↓rx_istore_n3, ↓rx_nil, ↓ry_i1, ↓bl_ob, ↓bl_r71, ↓bl_i76, ↓bl_i77, ↓bl_i78, ↓bl_i79, ↓bl_r80, ↓bl_r81, rz_set, rz_nol, rz_clr, List.set_cons_zero, List.set_cons_succ, rz_tr, Nat.reduceAdd, Int.reduceAdd, Int.reduceToNat, Int.reduceSub, Int.reduceNeg, Int.cast_ofNat_Int]
    refine hK _ _ _ _ ?_
    refine rz_blk' [(.iconst 0, 1, 0, 0), (.istore 4, 2, 0, 0)] (by decide +kernel) (Nat.le_refl _) (Nat.le_refl _) (fun K R hK hR => ?_)
    simp only [rw_c0, ↓rx_iconst, ↓rx_istore, ↓rx_nil, ↓ry_i1, ↓bl_ob, ↓bl_r71, ↓bl_i76, ↓bl_i77, ↓bl_i78, ↓bl_i79, ↓bl_r80, ↓bl_r81, rz_set, rz_nol, rz_clr, List.set_cons_zero, List.set_cons_succ, rz_tr, Nat.reduceAdd, Int.reduceAdd, Int.reduceToNat, Int.reduceSub, Int.reduceNeg, Int.cast_ofNat_Int]
    refine hK _ _ _ _ (bk_o_l hS hs ht 3 0 c rfl ?_)
    rw [hc]
    exact ⟨rfl, rfl⟩
  refine rz_enter' [some (.ref a), some (.int (nI s)), some (.int (nI t)), none, none] (by decide +kernel) rfl rfl (Nat.le_of_ble_eq_true rfl) rfl ?_
  refine rz_blk' [(.aload_n 0, 1, 0, 0), (.getfield 38, 3, 8, 6), (.iload_n 1, 1, 0, 0), (.iaload, 1, 0, 0), (.aload_n 0, 1, 0, 0), (.getfield 38, 3, 8, 6), (.iload_n 2, 1, 0, 0), (.iaload, 1, 0, 0), (.if_icmp .ne 7, 3, 0, 0), (.iconst 1, 1, 0, 0), (.goto 4, 3, 0, 0)] (by decide +kernel) (Nat.le_refl _) (Nat.le_refl _) (fun K R hK hR => ?_)
  simp only [rw_c1, ↓rx_aload_n0, ↓rx_getfield, ↓rx_goto, ↓rx_iaload, ↓rx_iconst, ↓rx_if_icmp_ne, ↓rx_iload_n1, ↓rx_iload_n2, ↓rx_nil, ↓ry_fvs, ↓ry_fvz, ↓ry_i2, ↓ry_iau, ↓ry_li0s, ↓ry_li0z, ↓ry_lr0s, ↓ry_lr0z, ↓ry_obu, ↓ry_r1, ↓ry_ri, true_and, ↓bl_ob, ↓bl_r71, ↓bl_i76, ↓bl_i77, ↓bl_i78, ↓bl_i79, ↓bl_r80, ↓bl_r81, ↓rh_ia hk0, rz_set, rz_nol, rz_clr, List.set_cons_zero, List.set_cons_succ, rz_tr, Nat.reduceAdd, Int.reduceAdd, Int.reduceToNat, Int.reduceSub, Int.reduceNeg, Int.cast_ofNat_Int]
  rw [nI_clamp (by omega), nI_clamp (by omega), (s3 s hs).1, (s3 t ht).1, nI_eq (by have := (s3 s hs).2; omega) (by have := (s3 t ht).2; omega)]
  refine ⟨vp_in_nI (by omega) (by decide), vp_in_nI (by omega) (by decide), fun q => hK _ _ _ _ ?_, fun q => hK _ _ _ _ ?_⟩
  · refine rz_blk' [(.iconst 0, 1, 0, 0)] (by decide +kernel) (Nat.le_refl _) (Nat.le_refl _) (fun K R hK hR => ?_)
    simp only [rw_c0, ↓rx_iconst, ↓rx_nil, ↓bl_ob, ↓bl_r71, ↓bl_i76, ↓bl_i77, ↓bl_i78, ↓bl_i79, ↓bl_r80, ↓bl_r81, rz_set, rz_nol, rz_clr, List.set_cons_zero, List.set_cons_succ, rz_tr, Nat.reduceAdd, Int.reduceAdd, Int.reduceToNat, Int.reduceSub, Int.reduceNeg, Int.cast_ofNat_Int]
    exact hK _ _ _ _ (hgo false (by simp [q]))
  · exact hgo true (by simp [q])

