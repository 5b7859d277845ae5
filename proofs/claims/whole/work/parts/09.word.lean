/-! WriterDesk$Word, third part -/
theorem wd_dr_step (N k i : Nat) : wd_k (N / 2 ^ (4 * k)) i = wd_k N (i + k / 16) / 2 ^ (4 * (k % 16)) ||| wd_k N (i + k / 16 + 1) * 2 ^ (64 - 4 * (k % 16)) % 2 ^ 64 := by
  refine wd_k_ext (wd_k_lt _ _) (Nat.or_lt_two_pow (Nat.lt_of_le_of_lt (Nat.div_le_self _ _) (wd_k_lt _ _)) (Nat.mod_lt _ (Nat.two_pow_pos _))) (fun t ht => ?_)
  rw [wd_k_bit, Nat.testBit_div_two_pow, Nat.testBit_or, Nat.testBit_div_two_pow, wd_k_bit, Nat.testBit_mod_two_pow, Nat.mul_comm (wd_k N (i + k / 16 + 1)), Nat.testBit_two_pow_mul, wd_k_bit]
  simp only [ht, decide_true, Bool.true_and]
  have e1 : 64 * i + t + 4 * k = 64 * (i + k / 16) + (t + 4 * (k % 16)) := by omega
  by_cases c1 : t + 4 * (k % 16) < 64
  · have c2 : ¬ 64 - 4 * (k % 16) ≤ t := by omega
    rw [e1]; simp [c1, c2]
  · have c2 : 64 - 4 * (k % 16) ≤ t := by omega
    have c3 : t - (64 - 4 * (k % 16)) < 64 := by omega
    have e2 : 64 * (i + k / 16) + (t + 4 * (k % 16)) = 64 * (i + k / 16 + 1) + (t - (64 - 4 * (k % 16))) := by omega
    rw [e1, e2]; simp [c1, c2, c3]
set_option maxRecDepth 100000 in
set_option maxHeartbeats 4000000 in
theorem wd_drop_l {w : rz_w} {d : Nat} {G : rz_G} {a c : Nat} {xs : List Nat} {k : Nat} (h1 : G a = some (wd_o a xs)) (hok : wd_ok c xs) (hk0 : 0 < k) (hk : k ≤ xs.length) {Q : Option Value → rz_G → Prop} (hQ : Q none (wd_put G a c (xs.drop k))) :
    ∀ (n i : Nat) (z1 z2 : Option Value) (f : Nat → Int64), c + 1 ≤ i + n → i ≤ c → (∀ j, f j = if j < i then wd_f (xs.drop k) j else wd_f xs j) → rz_T w d 0 0 m_Word_drop 0 0 28 [some (.ref a), some (.int (nI k)), some (.int (nI (k / 16))), some (.int (nI (4 * (k % 16)))), some (.int (nI i)), z1, none, z2, none] [] (rz_up G (a + 1) (.inl (1, c, .inr (.inl f)))) Q := by
  intro n
  induction n with
  | zero => intro i z1 z2 f h2 h3; omega
  | succ n ih =>
    intro i z1 z2 f hn hi hf
    obtain ⟨o1, o2, o3⟩ := hok
    have hN := wd_p_lt o2
    have hk0' : ∀ j, c ≤ j → wd_k (wd_p xs) j = 0 := fun j hj => wd_k_0 (Nat.lt_of_lt_of_le hN (Nat.pow_le_pow_right (by decide) (by omega)))
    have g1 : (rz_up G (a + 1) (.inl (1, c, .inr (.inl f)))) a = some (wd_o a xs) := by rw [rz_up_n _ _ (by omega)]; exact h1
    have g2 : (rz_up G (a + 1) (.inl (1, c, .inr (.inl f)))) (a + 1) = some (.inl (1, c, .inr (.inl f))) := rz_up_s _ _ _
    have hst : ∀ v : Int64, v = wd_f (xs.drop k) i → i < c → rz_T w d 0 0 m_Word_drop 0 0 125 [some (.ref a), some (.int (nI k)), some (.int (nI (k / 16))), some (.int (nI (4 * (k % 16)))), some (.int (nI i)), some (.long (lN (wd_k (wd_p xs) (i + k / 16)))), none, some (.long (lN (wd_k (wd_p xs) (i + k / 16 + 1)))), none] [.long v, .int (nI i), .ref (a + 1)] (rz_up G (a + 1) (.inl (1, c, .inr (.inl f)))) Q := by
      intro v hv hic
      refine rz_blk' [(.lastore, 1, 0, 0)] (by decide +kernel) (Nat.le_refl _) (Nat.le_refl _) (fun K R hK hR => ?_)
      simp only [↓rx_lastore, ↓rx_nil, ↓ry_lau, ↓ry_ril, ↓rh_la g2, rz_set, rz_nol, rz_clr, List.set_cons_zero, List.set_cons_succ, rz_tr, Nat.reduceAdd, Int.reduceAdd, Int.reduceToNat, Int.reduceSub, Int.reduceNeg, Int.cast_ofNat_Int]
      refine ⟨vp_in_nI hic (by omega), hK _ _ _ _ ?_⟩
      rw [rz_up_up]
      refine rz_blk' [(.iinc 4 1, 3, 0, 0), (.goto (-101), 3, 0, 0)] (by decide +kernel) (Nat.le_refl _) (Nat.le_refl _) (fun K R hK hR => ?_)
      simp only [rw_c1, ↓rx_goto, ↓rx_iinc, ↓rx_nil, ↓ry_li0s, ↓ry_li0z, rz_set, rz_nol, rz_clr, List.set_cons_zero, List.set_cons_succ, rz_tr, Nat.reduceAdd, Int.reduceAdd, Int.reduceToNat, Int.reduceSub, Int.reduceNeg, Int.cast_ofNat_Int]
      rw [nI_add, nI_clamp (by omega)]
      exact hK _ _ _ _ (ih (i + 1) _ _ _ (by omega) hic (wd_upd_if hf hv))
    have hlast : i < c → rz_T w d 0 0 m_Word_drop 0 0 98 [some (.ref a), some (.int (nI k)), some (.int (nI (k / 16))), some (.int (nI (4 * (k % 16)))), some (.int (nI i)), some (.long (lN (wd_k (wd_p xs) (i + k / 16)))), none, some (.long (lN (wd_k (wd_p xs) (i + k / 16 + 1)))), none] [] (rz_up G (a + 1) (.inl (1, c, .inr (.inl f)))) Q := by
      intro hic
      have ed : wd_f (xs.drop k) i = lN (wd_k (wd_p xs) (i + k / 16) / 2 ^ (4 * (k % 16)) ||| wd_k (wd_p xs) (i + k / 16 + 1) * 2 ^ (64 - 4 * (k % 16)) % 2 ^ 64) := by
        simp only [wd_f]; rw [(wd_p_split o2 k hk).1, wd_dr_step]
      refine rz_blk' [(.aload_n 0, 1, 0, 0), (.getfield 9, 3, 0, 0), (.iload 4, 2, 0, 0), (.iload_n 3, 1, 0, 0), (.ifCond .ne 8, 3, 0, 0), (.lload 5, 2, 0, 0), (.goto 15, 3, 0, 0)] (by decide +kernel) (Nat.le_refl _) (Nat.le_refl _) (fun K R hK hR => ?_)
      simp only [↓rx_aload_n0, ↓rx_getfield, ↓rx_goto, ↓rx_ifCond_ne, ↓rx_iload, ↓rx_iload_n3, ↓rx_lload, ↓rx_nil, ↓ry_fvs, ↓ry_fvz, ↓ry_i1, ↓ry_li0s, ↓ry_li0z, ↓ry_ll0s, ↓ry_ll0z, ↓ry_lr0s, ↓ry_lr0z, ↓ry_obu, ↓ry_r1, ↓rh_ob g1, rz_set, rz_nol, rz_clr, List.set_cons_zero, List.set_cons_succ, rz_tr, Nat.reduceAdd, Int.reduceAdd, Int.reduceToNat, Int.reduceSub, Int.reduceNeg, Int.cast_ofNat_Int]
      have hz : (0 : Int32) = nI 0 := rfl
      rw [hz, nI_eq (by omega) (by omega)]
      refine ⟨fun c1 => hK _ _ _ _ ?_, fun c1 => hK _ _ _ _ (hst _ ?_ hic)⟩
      ·
        refine rz_blk' [(.lload 5, 2, 0, 0), (.iload_n 3, 1, 0, 0), (.lushr, 1, 0, 0), (.lload 7, 2, 0, 0), (.bipush 64, 2, 0, 0), (.iload_n 3, 1, 0, 0), (.isub, 1, 0, 0), (.lshl, 1, 0, 0), (.lor, 1, 0, 0)] (by decide +kernel) (Nat.le_refl _) (Nat.le_refl _) (fun K R hK hR => ?_)
        simp only [rw_b64, ↓rx_bipush, ↓rx_iload_n3, ↓rx_isub, ↓rx_lload, ↓rx_lor, ↓rx_lshl, ↓rx_lushr, ↓rx_nil, ↓ry_i2, ↓ry_l2, ↓ry_li, ↓ry_li0s, ↓ry_li0z, ↓ry_ll0s, ↓ry_ll0z, rz_set, rz_nol, rz_clr, List.set_cons_zero, List.set_cons_succ, rz_tr, Nat.reduceAdd, Int.reduceAdd, Int.reduceToNat, Int.reduceSub, Int.reduceNeg, Int.cast_ofNat_Int]
        rw [pk_sub (by omega), wb_shr (wd_k_lt _ _) (by omega), wb_shl _ (by omega), wd_or64 (Nat.lt_of_le_of_lt (Nat.div_le_self _ _) (wd_k_lt _ _))]
        exact hK _ _ _ _ (hst _ ed.symm hic)
      · rw [ed, c1]
        simp
    have hhigh : ∀ v : Int64, v = lN (wd_k (wd_p xs) (i + k / 16 + 1)) → i < c → rz_T w d 0 0 m_Word_drop 0 0 96 [some (.ref a), some (.int (nI k)), some (.int (nI (k / 16))), some (.int (nI (4 * (k % 16)))), some (.int (nI i)), some (.long (lN (wd_k (wd_p xs) (i + k / 16)))), none, z2, none] [.long v] (rz_up G (a + 1) (.inl (1, c, .inr (.inl f)))) Q := by
      intro v hv hic
      refine rz_blk' [(.lstore 7, 2, 0, 0)] (by decide +kernel) (Nat.le_refl _) (Nat.le_refl _) (fun K R hK hR => ?_)
      simp only [↓rx_lstore, ↓rx_nil, ↓ry_l1, rz_set, rz_nol, rz_clr, List.set_cons_zero, List.set_cons_succ, rz_tr, Nat.reduceAdd, Int.reduceAdd, Int.reduceToNat, Int.reduceSub, Int.reduceNeg, Int.cast_ofNat_Int]
      rw [hv]
      exact hK _ _ _ _ (hlast hic)
    have hlow : ∀ v : Int64, v = lN (wd_k (wd_p xs) (i + k / 16)) → i < c → rz_T w d 0 0 m_Word_drop 0 0 65 [some (.ref a), some (.int (nI k)), some (.int (nI (k / 16))), some (.int (nI (4 * (k % 16)))), some (.int (nI i)), z1, none, z2, none] [.long v] (rz_up G (a + 1) (.inl (1, c, .inr (.inl f)))) Q := by
      intro v hv hic
      refine rz_blk' [(.lstore 5, 2, 0, 0)] (by decide +kernel) (Nat.le_refl _) (Nat.le_refl _) (fun K R hK hR => ?_)
      simp only [↓rx_lstore, ↓rx_nil, ↓ry_l1, rz_set, rz_nol, rz_clr, List.set_cons_zero, List.set_cons_succ, rz_tr, Nat.reduceAdd, Int.reduceAdd, Int.reduceToNat, Int.reduceSub, Int.reduceNeg, Int.cast_ofNat_Int]
      rw [hv]
      refine hK _ _ _ _ ?_
      refine rz_blk' [(.iload 4, 2, 0, 0), (.iload_n 2, 1, 0, 0), (.iadd, 1, 0, 0), (.iconst 1, 1, 0, 0), (.iadd, 1, 0, 0), (.aload_n 0, 1, 0, 0), (.getfield 9, 3, 0, 0), (.arraylength, 1, 0, 0), (.if_icmp .ge 17, 3, 0, 0), (.aload_n 0, 1, 0, 0), (.getfield 9, 3, 0, 0), (.iload 4, 2, 0, 0), (.iload_n 2, 1, 0, 0), (.iadd, 1, 0, 0), (.iconst 1, 1, 0, 0), (.iadd, 1, 0, 0), (.laload, 1, 0, 0), (.goto 4, 3, 0, 0)] (by decide +kernel) (Nat.le_refl _) (Nat.le_refl _) (fun K R hK hR => ?_)
      simp only [Nat.reduceLT, rw_c1, ↓rx_aload_n0, ↓rx_arraylength, ↓rx_getfield, ↓rx_goto, ↓rx_iadd, ↓rx_iconst, ↓rx_if_icmp_ge, ↓rx_iload, ↓rx_iload_n2, ↓rx_laload, ↓rx_nil, ↓ry_fvs, ↓ry_fvz, ↓ry_i2, ↓ry_lau, ↓ry_li0s, ↓ry_li0z, ↓ry_lr0s, ↓ry_lr0z, ↓ry_obu, ↓ry_r1, ↓ry_ri, true_and, ↓rh_ob g1, ↓rh_aa g2, ↓rh_la g2, nI_add, rz_set, rz_nol, rz_clr, List.set_cons_zero, List.set_cons_succ, rz_tr, Nat.reduceAdd, Int.reduceAdd, Int.reduceToNat, Int.reduceSub, Int.reduceNeg, Int.cast_ofNat_Int]
      refine ⟨fun c1 => hK _ _ _ _ ?_, fun c1 => ?_⟩
      · rw [wd_le (by omega) (by omega)] at c1
        refine rz_blk' [(.lconst 0, 1, 0, 0)] (by decide +kernel) (Nat.le_refl _) (Nat.le_refl _) (fun K R hK hR => ?_)
        simp only [↓rx_lconst0, ↓rx_nil, rz_set, rz_nol, rz_clr, List.set_cons_zero, List.set_cons_succ, rz_tr, Nat.reduceAdd, Int.reduceAdd, Int.reduceToNat, Int.reduceSub, Int.reduceNeg, Int.cast_ofNat_Int]
        exact hK _ _ _ _ (hhigh _ (by rw [hk0' _ c1]) hic)
      · rw [wd_le (by omega) (by omega)] at c1
        rw [nI_clamp (by omega), hf, if_neg (by omega)]
        exact ⟨vp_in_nI (by omega) (by omega), hK _ _ _ _ (hhigh _ rfl hic)⟩
    refine rz_blk' [(.iload 4, 2, 0, 0), (.bipush 16, 2, 0, 0), (.imul, 1, 0, 0), (.aload_n 0, 1, 0, 0), (.getfield 15, 3, 0, 1), (.if_icmp .ge 95, 3, 0, 0), (.iload 4, 2, 0, 0), (.iload_n 2, 1, 0, 0), (.iadd, 1, 0, 0), (.aload_n 0, 1, 0, 0), (.getfield 9, 3, 0, 0), (.arraylength, 1, 0, 0), (.if_icmp .ge 15, 3, 0, 0), (.aload_n 0, 1, 0, 0), (.getfield 9, 3, 0, 0), (.iload 4, 2, 0, 0), (.iload_n 2, 1, 0, 0), (.iadd, 1, 0, 0), (.laload, 1, 0, 0), (.goto 4, 3, 0, 0)] (by decide +kernel) (Nat.le_refl _) (Nat.le_refl _) (fun K R hK hR => ?_)
    simp only [Nat.reduceLT, rw_b16, ↓rx_aload_n0, ↓rx_arraylength, ↓rx_bipush, ↓rx_getfield, ↓rx_goto, ↓rx_iadd, ↓rx_if_icmp_ge, ↓rx_iload, ↓rx_iload_n2, ↓rx_imul, ↓rx_laload, ↓rx_nil, ↓ry_fvs, ↓ry_fvz, ↓ry_i2, ↓ry_lau, ↓ry_li0s, ↓ry_li0z, ↓ry_lr0s, ↓ry_lr0z, ↓ry_obu, ↓ry_r1, ↓ry_ri, true_and, ↓rh_ob g1, ↓rh_aa g2, ↓rh_la g2, nI_add, wd_m16, rz_set, rz_nol, rz_clr, List.set_cons_zero, List.set_cons_succ, rz_tr, Nat.reduceAdd, Int.reduceAdd, Int.reduceToNat, Int.reduceSub, Int.reduceNeg, Int.cast_ofNat_Int]
    refine ⟨fun c1 => hK _ _ _ _ ?_, fun c1 => ⟨fun c2 => hK _ _ _ _ ?_, fun c2 => ?_⟩⟩
    · rw [wd_le (by omega) (by omega)] at c1
      refine rz_blk' [(.aload_n 0, 1, 0, 0), (.dup, 1, 0, 0), (.getfield 15, 3, 0, 1), (.iload_n 1, 1, 0, 0), (.isub, 1, 0, 0), (.putfield 15, 3, 0, 1), (.return_, 1, 0, 0)] (by decide +kernel) (Nat.le_refl _) (Nat.le_refl _) (fun K R hK hR => ?_)
      simp only [List.length_cons, List.length_nil, Nat.reduceLT, rf_0_1, ↓rx_aload_n0, ↓rx_dup, ↓rx_getfield, ↓rx_iload_n1, ↓rx_isub, ↓rx_nil, ↓rx_putfield, ↓rx_return_, ↓ry_fvs, ↓ry_fvz, ↓ry_i2, ↓ry_li0s, ↓ry_li0z, ↓ry_lr0s, ↓ry_lr0z, ↓ry_obu, ↓ry_r1, ↓ry_v1i, ↓ry_v1r, ↓ry_vr, true_and, ↓rh_ob g1, rz_set, rz_nol, rz_clr, List.set_cons_zero, List.set_cons_succ, rz_tr, Nat.reduceAdd, Int.reduceAdd, Int.reduceToNat, Int.reduceSub, Int.reduceNeg, Int.cast_ofNat_Int]
      rw [pk_sub hk]
      refine hR _ _ (rz_nb_i (by decide)) (rz_eqQ (wd_fin (xs := xs.drop k) ?_ ?_) hQ)
      · funext j; rw [hf j]; split
        · rfl
        · rw [wd_f_0 o2 (by omega), wd_f_0 (fun x hx => o2 x (List.mem_of_mem_drop hx)) (by rw [List.length_drop]; omega)]
      · simp only [wd_o, List.length_drop]
    · rw [wd_le (by omega) (by omega)] at c1 c2
      refine rz_blk' [(.lconst 0, 1, 0, 0)] (by decide +kernel) (Nat.le_refl _) (Nat.le_refl _) (fun K R hK hR => ?_)
      simp only [↓rx_lconst0, ↓rx_nil, rz_set, rz_nol, rz_clr, List.set_cons_zero, List.set_cons_succ, rz_tr, Nat.reduceAdd, Int.reduceAdd, Int.reduceToNat, Int.reduceSub, Int.reduceNeg, Int.cast_ofNat_Int]
      exact hK _ _ _ _ (hlow _ (by rw [hk0' _ c2]) (by omega))
    · rw [wd_le (by omega) (by omega)] at c1 c2
      rw [nI_clamp (by omega), hf, if_neg (by omega)]
      exact ⟨vp_in_nI (by omega) (by omega), hK _ _ _ _ (hlow _ rfl (by omega))⟩

set_option maxRecDepth 100000 in
set_option maxHeartbeats 4000000 in
/-- drop(signs), where there are so many -/
theorem c_Word_drop {w : rz_w} {d : Nat} {G : rz_G} {a c : Nat} {xs : List Nat} {k : Nat} (h : wd_is G a c xs) (hk : k ≤ xs.length) : rz_C w d 0 0 y_Word_drop m_Word_drop [.ref a, .int (nI k)] G (fun r G' => r = none ∧ G' = wd_put G a c (xs.drop k)) := by
  obtain ⟨h1, h2, hok⟩ := id h
  obtain ⟨o1, o2, o3⟩ := id hok
  refine rz_enter' [some (.ref a), some (.int (nI k)), none, none, none, none, none, none, none] (by decide +kernel) rfl rfl (Nat.le_of_ble_eq_true rfl) rfl ?_
  have hz : (0 : Int32) = nI 0 := rfl
  refine rz_blk' [(.iload_n 1, 1, 0, 0), (.ifCond .le 11, 3, 0, 0), (.iload_n 1, 1, 0, 0), (.aload_n 0, 1, 0, 0), (.getfield 15, 3, 0, 1), (.if_icmp .le 4, 3, 0, 0), (.return_, 1, 0, 0)] (by decide +kernel) (Nat.le_refl _) (Nat.le_refl _) (fun K R hK hR => ?_)
  simp only [↓rx_aload_n0, ↓rx_getfield, ↓rx_ifCond_le, ↓rx_if_icmp_le, ↓rx_iload_n1, ↓rx_nil, ↓rx_return_, ↓ry_fvs, ↓ry_fvz, ↓ry_i1, ↓ry_i2, ↓ry_li0s, ↓ry_li0z, ↓ry_lr0s, ↓ry_lr0z, ↓ry_obu, ↓ry_r1, ↓rh_ob h1, rz_set, rz_nol, rz_clr, List.set_cons_zero, List.set_cons_succ, rz_tr, Nat.reduceAdd, Int.reduceAdd, Int.reduceToNat, Int.reduceSub, Int.reduceNeg, Int.cast_ofNat_Int]
  rw [hz]
  refine ⟨fun c1 => hK _ _ _ _ ?_, fun c1 => ⟨fun c2 => hK _ _ _ _ ?_, fun c2 => absurd ((wd_le (by omega) (by omega)).mpr hk) c2⟩⟩
  · rw [wd_le (by omega) (by omega)] at c1
    refine rz_blk' [(.return_, 1, 0, 0)] (by decide +kernel) (Nat.le_refl _) (Nat.le_refl _) (fun K R hK hR => ?_)
    simp only [↓rx_nil, ↓rx_return_, rz_set, rz_nol, rz_clr, List.set_cons_zero, List.set_cons_succ, rz_tr, Nat.reduceAdd, Int.reduceAdd, Int.reduceToNat, Int.reduceSub, Int.reduceNeg, Int.cast_ofNat_Int]
    refine hR _ _ (rz_nb_i (by decide)) ⟨rfl, ?_⟩
    rw [show k = 0 by omega, List.drop_zero]
    exact (wd_put_id h).symm
  · rw [wd_le (by omega) (by omega)] at c1
    refine rz_blk' [(.iload_n 1, 1, 0, 0), (.bipush 16, 2, 0, 0), (.idiv, 1, 0, 0), (.istore_n 2, 1, 0, 0)] (by decide +kernel) (Nat.le_refl _) (Nat.le_refl _) (fun K R hK hR => ?_)
    simp only [rw_b16, ↓rx_bipush, ↓rx_idiv, ↓rx_iload_n1, ↓rx_istore_n2, ↓rx_nil, ↓ry_i1, ↓ry_i2, ↓ry_li0s, ↓ry_li0z, rz_set, rz_nol, rz_clr, List.set_cons_zero, List.set_cons_succ, rz_tr, Nat.reduceAdd, Int.reduceAdd, Int.reduceToNat, Int.reduceSub, Int.reduceNeg, Int.cast_ofNat_Int]
    rw [pk_div (by omega) (by omega) (by omega)]
    refine ⟨by decide, hK _ _ _ _ ?_⟩
    refine rz_blk' [(.iconst 4, 1, 0, 0), (.iload_n 1, 1, 0, 0), (.bipush 16, 2, 0, 0), (.irem, 1, 0, 0), (.imul, 1, 0, 0), (.istore_n 3, 1, 0, 0)] (by decide +kernel) (Nat.le_refl _) (Nat.le_refl _) (fun K R hK hR => ?_)
    simp only [rw_b16, rw_c4, ↓rx_bipush, ↓rx_iconst, ↓rx_iload_n1, ↓rx_imul, ↓rx_irem, ↓rx_istore_n3, ↓rx_nil, ↓ry_i1, ↓ry_i2, ↓ry_li0s, ↓ry_li0z, rz_set, rz_nol, rz_clr, List.set_cons_zero, List.set_cons_succ, rz_tr, Nat.reduceAdd, Int.reduceAdd, Int.reduceToNat, Int.reduceSub, Int.reduceNeg, Int.cast_ofNat_Int]
    rw [pk_rem (by omega) (by omega) (by omega), pk_mul]
    refine ⟨by decide, hK _ _ _ _ ?_⟩
    refine rz_blk' [(.iconst 0, 1, 0, 0), (.istore 4, 2, 0, 0)] (by decide +kernel) (Nat.le_refl _) (Nat.le_refl _) (fun K R hK hR => ?_)
    simp only [rw_c0, ↓rx_iconst, ↓rx_istore, ↓rx_nil, ↓ry_i1, rz_set, rz_nol, rz_clr, List.set_cons_zero, List.set_cons_succ, rz_tr, Nat.reduceAdd, Int.reduceAdd, Int.reduceToNat, Int.reduceSub, Int.reduceNeg, Int.cast_ofNat_Int]
    refine hK _ _ _ _ ?_
    have e0 := rz_up_id G (a + 1) _ h2
    rw [← e0]
    exact wd_drop_l h1 hok (by omega) hk (by rw [e0]; exact ⟨rfl, rfl⟩) (c + 1) 0 none none _ (by omega) (by omega) (fun j => by simp)

theorem wd_ke_step (N k j : Nat) : wd_k (N % 2 ^ (4 * k)) j = if j < k / 16 then wd_k N j else if j = k / 16 then wd_k N j % 2 ^ (4 * (k % 16)) else 0 := by
  have hlt : (if j < k / 16 then wd_k N j else if j = k / 16 then wd_k N j % 2 ^ (4 * (k % 16)) else 0) < 2 ^ 64 := by
    split
    · exact wd_k_lt _ _
    · split
      · exact Nat.lt_of_le_of_lt (Nat.mod_le _ _) (wd_k_lt _ _)
      · decide
  refine wd_k_ext (wd_k_lt _ _) hlt (fun t ht => ?_)
  rw [wd_k_bit, Nat.testBit_mod_two_pow]
  simp only [ht, decide_true, Bool.true_and]
  split
  · have e : 64 * j + t < 4 * k := by omega
    rw [wd_k_bit]; simp [ht, e]
  · split
    · rw [Nat.testBit_mod_two_pow, wd_k_bit]
      by_cases e : 64 * j + t < 4 * k
      · have e2 : t < 4 * (k % 16) := by omega
        simp [ht, e, e2]
      · have e2 : ¬ t < 4 * (k % 16) := by omega
        simp [e, e2]
    · have e : ¬ 64 * j + t < 4 * k := by omega
      simp [e]
set_option maxRecDepth 100000 in
set_option maxHeartbeats 4000000 in
theorem wd_keep_l {w : rz_w} {d : Nat} {G : rz_G} {a c : Nat} {xs : List Nat} {k : Nat} (h1 : G a = some (wd_o a xs)) (hok : wd_ok c xs) (hk : k < xs.length) {Q : Option Value → rz_G → Prop} (hQ : Q none (wd_put G a c (xs.take k))) :
    ∀ (n i : Nat) (f : Nat → Int64), c + 1 ≤ i + n → i ≤ c → k / 16 < i → (∀ j, f j = if j < i then wd_f (xs.take k) j else wd_f xs j) → rz_T w d 0 0 m_Word_keepFirst 0 0 41 [some (.ref a), some (.int (nI k)), some (.int (nI (k / 16))), some (.int (nI i))] [] (rz_up G (a + 1) (.inl (1, c, .inr (.inl f)))) Q := by
  intro n
  induction n with
  | zero => intro i f h2 h3; omega
  | succ n ih =>
    intro i f hn hi hki hf
    obtain ⟨o1, o2, o3⟩ := hok
    have g1 : (rz_up G (a + 1) (.inl (1, c, .inr (.inl f)))) a = some (wd_o a xs) := by rw [rz_up_n _ _ (by omega)]; exact h1
    have g2 : (rz_up G (a + 1) (.inl (1, c, .inr (.inl f)))) (a + 1) = some (.inl (1, c, .inr (.inl f))) := rz_up_s _ _ _
    refine rz_blk' [(.iload_n 3, 1, 0, 0), (.bipush 16, 2, 0, 0), (.imul, 1, 0, 0), (.aload_n 0, 1, 0, 0), (.getfield 15, 3, 0, 1), (.if_icmp .ge 16, 3, 0, 0), (.aload_n 0, 1, 0, 0), (.getfield 9, 3, 0, 0), (.iload_n 3, 1, 0, 0), (.lconst 0, 1, 0, 0), (.lastore, 1, 0, 0)] (by decide +kernel) (Nat.le_refl _) (Nat.le_refl _) (fun K R hK hR => ?_)
    simp only [rw_b16, ↓rx_aload_n0, ↓rx_bipush, ↓rx_getfield, ↓rx_if_icmp_ge, ↓rx_iload_n3, ↓rx_imul, ↓rx_lastore, ↓rx_lconst0, ↓rx_nil, ↓ry_fvs, ↓ry_fvz, ↓ry_i2, ↓ry_lau, ↓ry_li0s, ↓ry_li0z, ↓ry_lr0s, ↓ry_lr0z, ↓ry_obu, ↓ry_r1, ↓ry_ril, ↓rh_ob g1, ↓rh_la g2, wd_m16, rz_set, rz_nol, rz_clr, List.set_cons_zero, List.set_cons_succ, rz_tr, Nat.reduceAdd, Int.reduceAdd, Int.reduceToNat, Int.reduceSub, Int.reduceNeg, Int.cast_ofNat_Int]
    refine ⟨fun c1 => hK _ _ _ _ ?_, fun c1 => ?_⟩
    · rw [wd_le (by omega) (by omega)] at c1
      refine rz_blk' [(.aload_n 0, 1, 0, 0), (.iload_n 1, 1, 0, 0), (.putfield 15, 3, 0, 1), (.return_, 1, 0, 0)] (by decide +kernel) (Nat.le_refl _) (Nat.le_refl _) (fun K R hK hR => ?_)
      simp only [List.length_cons, List.length_nil, Nat.reduceLT, rf_0_1, ↓rx_aload_n0, ↓rx_iload_n1, ↓rx_nil, ↓rx_putfield, ↓rx_return_, ↓ry_li0s, ↓ry_li0z, ↓ry_lr0s, ↓ry_lr0z, ↓ry_obu, ↓ry_vr, true_and, ↓rh_ob g1, rz_set, rz_nol, rz_clr, List.set_cons_zero, List.set_cons_succ, rz_tr, Nat.reduceAdd, Int.reduceAdd, Int.reduceToNat, Int.reduceSub, Int.reduceNeg, Int.cast_ofNat_Int]
      refine hR _ _ (rz_nb_i (by decide)) (rz_eqQ (wd_fin (xs := xs.take k) ?_ ?_) hQ)
      · funext j; rw [hf j]; split
        · rfl
        · rw [wd_f_0 o2 (by omega), wd_f_0 (fun x hx => o2 x (List.mem_of_mem_take hx)) (by rw [List.length_take]; omega)]
      · simp only [wd_o, List.length_take, Nat.min_eq_left (Nat.le_of_lt hk)]
    · rw [wd_le (by omega) (by omega)] at c1
      refine ⟨vp_in_nI (by omega) (by omega), hK _ _ _ _ ?_⟩
      rw [rz_up_up]
      refine rz_blk' [(.iinc 3 1, 3, 0, 0), (.goto (-21), 3, 0, 0)] (by decide +kernel) (Nat.le_refl _) (Nat.le_refl _) (fun K R hK hR => ?_)
      simp only [rw_c1, ↓rx_goto, ↓rx_iinc, ↓rx_nil, ↓ry_li0s, ↓ry_li0z, rz_set, rz_nol, rz_clr, List.set_cons_zero, List.set_cons_succ, rz_tr, Nat.reduceAdd, Int.reduceAdd, Int.reduceToNat, Int.reduceSub, Int.reduceNeg, Int.cast_ofNat_Int]
      rw [nI_add, nI_clamp (by omega)]
      refine hK _ _ _ _ (ih (i + 1) _ (by omega) (by omega) (by omega) (wd_upd_if hf ?_))
      rw [wd_f_0 (fun x hx => o2 x (List.mem_of_mem_take hx)) (by rw [List.length_take]; omega)]

set_option maxRecDepth 100000 in
set_option maxHeartbeats 4000000 in
/-- keepFirst(signs) -/
theorem c_Word_keepFirst {w : rz_w} {d : Nat} {G : rz_G} {a c : Nat} {xs : List Nat} {k : Nat} (hk31 : k < 2 ^ 31) (h : wd_is G a c xs) : rz_C w d 0 0 y_Word_keepFirst m_Word_keepFirst [.ref a, .int (nI k)] G (fun r G' => r = none ∧ G' = wd_put G a c (xs.take k)) := by
  obtain ⟨h1, h2, hok⟩ := id h
  obtain ⟨o1, o2, o3⟩ := id hok
  refine rz_enter' [some (.ref a), some (.int (nI k)), none, none] (by decide +kernel) rfl rfl (Nat.le_of_ble_eq_true rfl) rfl ?_
  refine rz_blk' [(.iload_n 1, 1, 0, 0), (.ifCond .lt 11, 3, 0, 0), (.iload_n 1, 1, 0, 0), (.aload_n 0, 1, 0, 0), (.getfield 15, 3, 0, 1), (.if_icmp .lt 4, 3, 0, 0), (.return_, 1, 0, 0)] (by decide +kernel) (Nat.le_refl _) (Nat.le_refl _) (fun K R hK hR => ?_)
  simp only [↓rx_aload_n0, ↓rx_getfield, ↓rx_ifCond_lt, ↓rx_if_icmp_lt, ↓rx_iload_n1, ↓rx_nil, ↓rx_return_, ↓ry_fvs, ↓ry_fvz, ↓ry_i1, ↓ry_i2, ↓ry_li0s, ↓ry_li0z, ↓ry_lr0s, ↓ry_lr0z, ↓ry_obu, ↓ry_r1, ↓rh_ob h1, rz_set, rz_nol, rz_clr, List.set_cons_zero, List.set_cons_succ, rz_tr, Nat.reduceAdd, Int.reduceAdd, Int.reduceToNat, Int.reduceSub, Int.reduceNeg, Int.cast_ofNat_Int]
  refine ⟨fun c1 => absurd c1 (nI_pos hk31), fun c1 => ⟨fun c2 => hK _ _ _ _ ?_, fun c2 => ?_⟩⟩
  · rw [wd_lt (by omega) (by omega)] at c2
    refine rz_blk' [(.iload_n 1, 1, 0, 0), (.bipush 16, 2, 0, 0), (.idiv, 1, 0, 0), (.istore_n 2, 1, 0, 0)] (by decide +kernel) (Nat.le_refl _) (Nat.le_refl _) (fun K R hK hR => ?_)
    simp only [rw_b16, ↓rx_bipush, ↓rx_idiv, ↓rx_iload_n1, ↓rx_istore_n2, ↓rx_nil, ↓ry_i1, ↓ry_i2, ↓ry_li0s, ↓ry_li0z, rz_set, rz_nol, rz_clr, List.set_cons_zero, List.set_cons_succ, rz_tr, Nat.reduceAdd, Int.reduceAdd, Int.reduceToNat, Int.reduceSub, Int.reduceNeg, Int.cast_ofNat_Int]
    rw [pk_div (by omega) (by omega) (by omega)]
    refine ⟨by decide, hK _ _ _ _ ?_⟩
    refine rz_blk' [(.aload_n 0, 1, 0, 0), (.getfield 9, 3, 0, 0), (.iload_n 2, 1, 0, 0), (.dup2, 1, 0, 0), (.laload, 1, 0, 0), (.lconst 1, 1, 0, 0), (.iconst 4, 1, 0, 0), (.iload_n 1, 1, 0, 0), (.bipush 16, 2, 0, 0), (.irem, 1, 0, 0), (.imul, 1, 0, 0), (.lshl, 1, 0, 0), (.lconst 1, 1, 0, 0), (.lsub, 1, 0, 0), (.land, 1, 0, 0), (.lastore, 1, 0, 0)] (by decide +kernel) (Nat.le_refl _) (Nat.le_refl _) (fun K R hK hR => ?_)
    simp only [rw_b16, rw_c4, ↓rx_aload_n0, ↓rx_bipush, ↓rx_dup2, ↓rx_getfield, ↓rx_iconst, ↓rx_iload_n1, ↓rx_iload_n2, ↓rx_imul, ↓rx_irem, ↓rx_laload, ↓rx_land, ↓rx_lastore, ↓rx_lconst1, ↓rx_lshl, ↓rx_lsub, ↓rx_nil, ↓ry_fvs, ↓ry_fvz, ↓ry_i2, ↓ry_l2, ↓ry_lau, ↓ry_li, ↓ry_li0s, ↓ry_li0z, ↓ry_lr0s, ↓ry_lr0z, ↓ry_obu, ↓ry_r1, ↓ry_ri, ↓ry_ril, ↓ry_v2, ↓rh_ob h1, ↓rh_la h2, rz_set, rz_nol, rz_clr, List.set_cons_zero, List.set_cons_succ, rz_tr, Nat.reduceAdd, Int.reduceAdd, Int.reduceToNat, Int.reduceSub, Int.reduceNeg, Int.cast_ofNat_Int]
    rw [pk_rem (by omega) (by omega) (by omega), pk_mul, nI_clamp (by omega), wb_shl _ (by omega), Nat.one_mul, lN_sub (Nat.two_pow_pos _), wd_f, wb_mask (wd_k_lt _ _) (by omega)]
    refine ⟨vp_in_nI (by omega) (by omega), by decide, vp_in_nI (by omega) (by omega), hK _ _ _ _ ?_⟩
    refine rz_blk' [(.iload_n 2, 1, 0, 0), (.iconst 1, 1, 0, 0), (.iadd, 1, 0, 0), (.istore_n 3, 1, 0, 0)] (by decide +kernel) (Nat.le_refl _) (Nat.le_refl _) (fun K R hK hR => ?_)
    simp only [rw_c1, ↓rx_iadd, ↓rx_iconst, ↓rx_iload_n2, ↓rx_istore_n3, ↓rx_nil, ↓ry_i1, ↓ry_i2, ↓ry_li0s, ↓ry_li0z, nI_add, rz_set, rz_nol, rz_clr, List.set_cons_zero, List.set_cons_succ, rz_tr, Nat.reduceAdd, Int.reduceAdd, Int.reduceToNat, Int.reduceSub, Int.reduceNeg, Int.cast_ofNat_Int]
    refine hK _ _ _ _ (wd_keep_l h1 hok c2 ⟨rfl, rfl⟩ (c + 1) (k / 16 + 1) _ (by omega) (by omega) (by omega) (fun j => ?_))
    simp only [vp_updL]
    have et : wd_f (xs.take k) j = lN (if j < k / 16 then wd_k (wd_p xs) j else if j = k / 16 then wd_k (wd_p xs) j % 2 ^ (4 * (k % 16)) else 0) := by
      simp only [wd_f]; rw [(wd_p_split o2 k (Nat.le_of_lt c2)).2, wd_ke_step]
    rw [et]
    by_cases q : j = k / 16
    · subst q; simp
    · rw [if_neg q]
      by_cases q2 : j < k / 16
      · rw [if_pos (by omega), if_pos q2]; rfl
      · rw [if_neg (by omega)]
  · rw [wd_lt (by omega) (by omega)] at c2
    refine hR _ _ (rz_nb_i (by decide)) ⟨rfl, ?_⟩
    rw [List.take_of_length_le (by omega)]
    exact (wd_put_id h).symm

theorem wd_p_zero : ∀ n, wd_p (List.replicate n 0) = 0
  | 0 => rfl
  | n + 1 => by simp [List.replicate_succ, wd_p, wd_p_zero n]
theorem wd_f_zero (n : Nat) : wd_f (List.replicate n 0) = fun _ => lN 0 := by
  funext j; simp [wd_f, wd_p_zero, wd_k]
set_option maxRecDepth 100000 in
set_option maxHeartbeats 4000000 in
/-- stretch(n): so many zeros -/
theorem c_Word_stretch {w : rz_w} {d : Nat} {G : rz_G} {a c : Nat} {xs : List Nat} {k : Nat} (hk31 : k < 2 ^ 31) (h : wd_is G a c xs) : rz_C w (d + 1) 0 0 y_Word_stretch m_Word_stretch [.ref a, .int (nI k)] G (fun r G' => r = none ∧ G' = wd_put G a c (List.replicate (min k (16 * c)) 0)) := by
  obtain ⟨h1, h2, hok⟩ := id h
  obtain ⟨o1, o2, o3⟩ := id hok
  refine rz_enter' [some (.ref a), some (.int (nI k))] (by decide +kernel) rfl rfl (Nat.le_of_ble_eq_true rfl) rfl ?_
  refine rz_blk' [(.aload_n 0, 1, 0, 0)] (by decide +kernel) (Nat.le_refl _) (Nat.le_refl _) (fun K R hK hR => ?_)
  simp only [↓rx_aload_n0, ↓rx_nil, ↓ry_lr0s, ↓ry_lr0z, rz_set, rz_nol, rz_clr, List.set_cons_zero, List.set_cons_succ, rz_tr, Nat.reduceAdd, Int.reduceAdd, Int.reduceToNat, Int.reduceSub, Int.reduceNeg, Int.cast_ofNat_Int]
  refine hK _ _ _ _ ?_
  refine rz_cV (As := []) (b := a) (S := []) l_Word_19 (by decide +kernel) rfl h1 rfl (Nat.le_of_ble_eq_true rfl) (Nat.le_refl _) (Nat.le_refl _) (c_Word_clear h) (fun r G' hq => ?_)
  obtain ⟨rfl, rfl⟩ := hq
  have hp : wd_is (wd_put G a c []) a c [] := wd_put_is ⟨by simp, by simp, o3⟩
  obtain ⟨q1, q2, -⟩ := id hp
  simp only [Option.toList, List.nil_append]
  refine rz_blk' [(.aload_n 0, 1, 0, 0), (.iload_n 1, 1, 0, 0), (.aload_n 0, 1, 0, 0), (.getfield 9, 3, 0, 0), (.arraylength, 1, 0, 0), (.bipush 16, 2, 0, 0), (.imul, 1, 0, 0)] (by decide +kernel) (Nat.le_refl _) (Nat.le_refl _) (fun K R hK hR => ?_)
  simp only [Nat.reduceLT, rw_b16, ↓rx_aload_n0, ↓rx_arraylength, ↓rx_bipush, ↓rx_getfield, ↓rx_iload_n1, ↓rx_imul, ↓rx_nil, ↓ry_fvs, ↓ry_fvz, ↓ry_i2, ↓ry_li0s, ↓ry_li0z, ↓ry_lr0s, ↓ry_lr0z, ↓ry_obu, ↓ry_r1, true_and, ↓rh_ob q1, ↓rh_aa q2, wd_m16, rz_set, rz_nol, rz_clr, List.set_cons_zero, List.set_cons_succ, rz_tr, Nat.reduceAdd, Int.reduceAdd, Int.reduceToNat, Int.reduceSub, Int.reduceNeg, Int.cast_ofNat_Int]
  refine hK _ _ _ _ (rz_mmin (rz_j4 112 rfl rfl) (rz_j4 113 rfl rfl) (rz_j1 21 rfl rfl) (rz_j4 114 rfl rfl) (Nat.le_of_ble_eq_true rfl) (Nat.le_refl _) (Nat.le_refl _) (by decide +kernel) ?_)
  have em : (if nI (16 * c) < nI k then nI (16 * c) else nI k) = nI (List.replicate (min k (16 * c)) (0 : Nat)).length := by
    rw [List.length_replicate]
    split
    · next q => rw [wd_lt (by omega) (by omega)] at q; rw [Nat.min_eq_right (by omega)]
    · next q => rw [wd_lt (by omega) (by omega)] at q; rw [Nat.min_eq_left (by omega)]
  rw [em]
  refine rz_blk' [(.putfield 15, 3, 0, 1), (.return_, 1, 0, 0)] (by decide +kernel) (Nat.le_refl _) (Nat.le_refl _) (fun K R hK hR => ?_)
  simp only [List.length_cons, List.length_nil, Nat.reduceLT, rf_0_1, ↓rx_nil, ↓rx_putfield, ↓rx_return_, ↓ry_obu, ↓ry_vr, true_and, ↓rh_ob q1, rz_set, rz_nol, rz_clr, List.set_cons_zero, List.set_cons_succ, rz_tr, Nat.reduceAdd, Int.reduceAdd, Int.reduceToNat, Int.reduceSub, Int.reduceNeg, Int.cast_ofNat_Int]
  refine hR _ _ (rz_nb_i (by decide)) ⟨rfl, ?_⟩
  simp only [wd_put]
  rw [rz_up_comm _ _ _ (show a + 1 ≠ a by omega), rz_up_up]
  have e0 : wd_f [] = wd_f (List.replicate (min k (16 * c)) 0) := by rw [wd_f_zero, wd_f_nil]
  simp only [wd_a, e0]

theorem wd_p_set : ∀ {xs : List Nat}, (∀ x ∈ xs, x < 16) → ∀ (i s : Nat), i < xs.length → s < 16 → ∀ u, (wd_p (xs.set i s)).testBit u = if 4 * i ≤ u ∧ u < 4 * i + 4 then s.testBit (u - 4 * i) else (wd_p xs).testBit u
  | [], _, i, s, h, _ => by simp at h
  | x :: xs, h, 0, s, _, hs => by
    intro u
    have hx := h x List.mem_cons_self
    simp only [List.set_cons_zero, wd_p]
    rw [show s + 16 * wd_p xs = 2 ^ 4 * wd_p xs + s by omega, show x + 16 * wd_p xs = 2 ^ 4 * wd_p xs + x by omega, Nat.testBit_two_pow_mul_add _ hs, Nat.testBit_two_pow_mul_add _ hx]
    by_cases c : u < 4
    · rw [if_pos c, if_pos (by omega)]; rfl
    · rw [if_neg c, if_neg (by omega), if_neg c]
  | x :: xs, h, i + 1, s, hi, hs => by
    intro u
    have hx := h x List.mem_cons_self
    have ih := wd_p_set (xs := xs) (fun y hy => h y (List.mem_cons_of_mem _ hy)) i s (by simpa using hi) hs (u - 4)
    simp only [List.set_cons_succ, wd_p]
    rw [show x + 16 * wd_p (xs.set i s) = 2 ^ 4 * wd_p (xs.set i s) + x by omega, show x + 16 * wd_p xs = 2 ^ 4 * wd_p xs + x by omega, Nat.testBit_two_pow_mul_add _ hx, Nat.testBit_two_pow_mul_add _ hx, ih]
    by_cases c : u < 4
    · rw [if_pos c, if_neg (by omega), if_pos c]
    · rw [if_neg c, if_neg c]
      by_cases c2 : 4 * i ≤ u - 4 ∧ u - 4 < 4 * i + 4
      · rw [if_pos c2, if_pos (by omega)]; congr 1; omega
      · rw [if_neg c2, if_neg (by omega)]
theorem wd_pu_step {xs : List Nat} (h : ∀ x ∈ xs, x < 16) {i s : Nat} (hi : i < xs.length) (hs : s < 16) (j : Nat) : wd_f (xs.set i s) j = if j = i / 16 then lN (wd_k (wd_p xs) j) &&& ((15 <<< ((nI (4 * (i % 16))).toInt64 &&& 63)) ^^^ (-1)) ||| (lN s <<< ((nI (4 * (i % 16))).toInt64 &&& 63)) else wd_f xs j := by
  split
  · next q =>
    have e15 : (15 : Int64) = lN 15 := rfl
    have hl : 15 * 2 ^ (4 * (i % 16)) < 2 ^ 64 := by
      have : 2 ^ (4 * (i % 16)) ≤ 2 ^ 60 := Nat.pow_le_pow_right (by decide) (by omega)
      omega
    have hl2 : s * 2 ^ (4 * (i % 16)) < 2 ^ 64 := Nat.lt_of_le_of_lt (Nat.mul_le_mul_right _ (by omega)) hl
    apply wb_inj
    rw [e15, wb_shl _ (by omega), wb_shl _ (by omega)]
    apply BitVec.eq_of_getLsbD_eq
    intro t ht
    have hm1 : (-1 : Int64).toBitVec = BitVec.allOnes 64 := by decide
    rw [Int64.toBitVec_or, Int64.toBitVec_and, Int64.toBitVec_xor, hm1]
    simp only [wd_f, wb_tb]
    rw [BitVec.getLsbD_or, BitVec.getLsbD_and, BitVec.getLsbD_xor, BitVec.getLsbD_allOnes, BitVec.getLsbD_ofNat, BitVec.getLsbD_ofNat, BitVec.getLsbD_ofNat, BitVec.getLsbD_ofNat, wd_k_bit, wd_k_bit, wd_p_set h i s hi hs, Nat.mul_comm 15, Nat.mul_comm s, Nat.testBit_two_pow_mul, Nat.testBit_two_pow_mul]
    simp only [ht, decide_true, Bool.true_and]
    by_cases c1 : 4 * (i % 16) ≤ t
    · by_cases c2 : t < 4 * (i % 16) + 4
      · have c3 : 4 * i ≤ 64 * j + t ∧ 64 * j + t < 4 * i + 4 := by omega
        have e4 : 64 * j + t - 4 * i = t - 4 * (i % 16) := by omega
        rw [if_pos c3, e4]
        have hb : Nat.testBit 15 (t - 4 * (i % 16)) = true := by
          have : ∀ z, z < 4 → Nat.testBit 15 z = true := by decide
          exact this _ (by omega)
        simp [c1, hb]
      · have c3 : ¬ (4 * i ≤ 64 * j + t ∧ 64 * j + t < 4 * i + 4) := by omega
        rw [if_neg c3]
        have hb : Nat.testBit 15 (t - 4 * (i % 16)) = false := Nat.testBit_lt_two_pow (Nat.lt_of_lt_of_le (show 15 < 2 ^ 4 by decide) (Nat.pow_le_pow_right (by decide) (by omega)))
        have hb2 : Nat.testBit s (t - 4 * (i % 16)) = false := Nat.testBit_lt_two_pow (Nat.lt_of_lt_of_le (show s < 2 ^ 4 by omega) (Nat.pow_le_pow_right (by decide) (by omega)))
        simp [hb, hb2]
    · have c3 : ¬ (4 * i ≤ 64 * j + t ∧ 64 * j + t < 4 * i + 4) := by omega
      rw [if_neg c3]
      simp [c1]
  · next q =>
    simp only [wd_f]
    congr 1
    refine wd_k_ext (wd_k_lt _ _) (wd_k_lt _ _) (fun t ht => ?_)
    rw [wd_k_bit, wd_k_bit, wd_p_set h i s hi hs, if_neg (by omega)]
set_option maxRecDepth 100000 in
set_option maxHeartbeats 4000000 in
/-- put(i, sign), where there is sign i -/
theorem c_Word_put {w : rz_w} {d : Nat} {G : rz_G} {a c : Nat} {xs : List Nat} {i s : Nat} (h : wd_is G a c xs) (hi : i < xs.length) (hs : s < 16) : rz_C w d 0 0 y_Word_put m_Word_put [.ref a, .int (nI i), .int (nI s)] G (fun r G' => r = none ∧ G' = wd_put G a c (xs.set i s)) := by
  obtain ⟨h1, h2, hok⟩ := id h
  obtain ⟨o1, o2, o3⟩ := id hok
  refine rz_enter' [some (.ref a), some (.int (nI i)), some (.int (nI s)), none] (by decide +kernel) rfl rfl (Nat.le_of_ble_eq_true rfl) rfl ?_
  refine rz_blk' [(.iload_n 1, 1, 0, 0), (.ifCond .lt 51, 3, 0, 0), (.iload_n 1, 1, 0, 0), (.aload_n 0, 1, 0, 0), (.getfield 15, 3, 0, 1), (.if_icmp .ge 43, 3, 0, 0), (.iconst 4, 1, 0, 0), (.iload_n 1, 1, 0, 0), (.bipush 16, 2, 0, 0), (.irem, 1, 0, 0), (.imul, 1, 0, 0), (.istore_n 3, 1, 0, 0)] (by decide +kernel) (Nat.le_refl _) (Nat.le_refl _) (fun K R hK hR => ?_)
  simp only [rw_b16, rw_c4, ↓rx_aload_n0, ↓rx_bipush, ↓rx_getfield, ↓rx_iconst, ↓rx_ifCond_lt, ↓rx_if_icmp_ge, ↓rx_iload_n1, ↓rx_imul, ↓rx_irem, ↓rx_istore_n3, ↓rx_nil, ↓ry_fvs, ↓ry_fvz, ↓ry_i1, ↓ry_i2, ↓ry_li0s, ↓ry_li0z, ↓ry_lr0s, ↓ry_lr0z, ↓ry_obu, ↓ry_r1, ↓rh_ob h1, rz_set, rz_nol, rz_clr, List.set_cons_zero, List.set_cons_succ, rz_tr, Nat.reduceAdd, Int.reduceAdd, Int.reduceToNat, Int.reduceSub, Int.reduceNeg, Int.cast_ofNat_Int]
  refine ⟨fun c1 => absurd c1 (nI_pos (by omega)), fun c1 => ⟨fun c2 => absurd c2 (by rw [wd_le (by omega) (by omega)]; omega), fun c2 => ⟨by decide, ?_⟩⟩⟩
  rw [pk_rem (by omega) (by omega) (by omega), pk_mul]
  refine hK _ _ _ _ ?_
  refine rz_blk' [(.aload_n 0, 1, 0, 0), (.getfield 9, 3, 0, 0), (.iload_n 1, 1, 0, 0), (.bipush 16, 2, 0, 0), (.idiv, 1, 0, 0), (.aload_n 0, 1, 0, 0), (.getfield 9, 3, 0, 0), (.iload_n 1, 1, 0, 0), (.bipush 16, 2, 0, 0), (.idiv, 1, 0, 0), (.laload, 1, 0, 0)] (by decide +kernel) (Nat.le_refl _) (Nat.le_refl _) (fun K R hK hR => ?_)
  simp only [rw_b16, ↓rx_aload_n0, ↓rx_bipush, ↓rx_getfield, ↓rx_idiv, ↓rx_iload_n1, ↓rx_laload, ↓rx_nil, ↓ry_fvs, ↓ry_fvz, ↓ry_i2, ↓ry_lau, ↓ry_li0s, ↓ry_li0z, ↓ry_lr0s, ↓ry_lr0z, ↓ry_obu, ↓ry_r1, ↓ry_ri, ↓rh_ob h1, ↓rh_la h2, rz_set, rz_nol, rz_clr, List.set_cons_zero, List.set_cons_succ, rz_tr, Nat.reduceAdd, Int.reduceAdd, Int.reduceToNat, Int.reduceSub, Int.reduceNeg, Int.cast_ofNat_Int]
  rw [pk_div (by omega) (by omega) (by omega), nI_clamp (by omega)]
  refine ⟨by decide, by decide, vp_in_nI (by omega) (by omega), hK _ _ _ _ (rz_ldc2 (v := 15) (by decide +kernel) (rz_j4 32 rfl rfl) ?_)⟩
  refine rz_blk' [(.iload_n 3, 1, 0, 0), (.lshl, 1, 0, 0)] (by decide +kernel) (Nat.le_refl _) (Nat.le_refl _) (fun K R hK hR => ?_)
  simp only [↓rx_iload_n3, ↓rx_lshl, ↓rx_nil, ↓ry_li, ↓ry_li0s, ↓ry_li0z, rz_set, rz_nol, rz_clr, List.set_cons_zero, List.set_cons_succ, rz_tr, Nat.reduceAdd, Int.reduceAdd, Int.reduceToNat, Int.reduceSub, Int.reduceNeg, Int.cast_ofNat_Int]
  refine hK _ _ _ _ (rz_ldc2 (v := -1) (by decide +kernel) (rz_j4 119 rfl rfl) ?_)
  refine rz_blk' [(.lxor, 1, 0, 0), (.land, 1, 0, 0), (.iload_n 2, 1, 0, 0), (.i2l, 1, 0, 0), (.iload_n 3, 1, 0, 0), (.lshl, 1, 0, 0), (.lor, 1, 0, 0), (.lastore, 1, 0, 0), (.return_, 1, 0, 0)] (by decide +kernel) (Nat.le_refl _) (Nat.le_refl _) (fun K R hK hR => ?_)
  simp only [↓rx_i2l, ↓rx_iload_n2, ↓rx_iload_n3, ↓rx_land, ↓rx_lastore, ↓rx_lor, ↓rx_lshl, ↓rx_lxor, ↓rx_nil, ↓rx_return_, ↓ry_i1, ↓ry_l2, ↓ry_lau, ↓ry_li, ↓ry_li0s, ↓ry_li0z, ↓ry_ril, ↓rh_la h2, rz_set, rz_nol, rz_clr, List.set_cons_zero, List.set_cons_succ, rz_tr, Nat.reduceAdd, Int.reduceAdd, Int.reduceToNat, Int.reduceSub, Int.reduceNeg, Int.cast_ofNat_Int]
  rw [nI_l (n := s) (by omega), nI_clamp (by omega)]
  refine ⟨vp_in_nI (by omega) (by omega), hR _ _ (rz_nb_i (by decide)) ⟨rfl, ?_⟩⟩
  simp only [wd_put]
  rw [rz_up_id G a (wd_o a (xs.set i s)) (by rw [h1]; simp only [wd_o, List.length_set])]
  have ef : ∀ F, F = wd_f (xs.set i s) → rz_up G (a + 1) (.inl (1, c, .inr (.inl F))) = rz_up G (a + 1) (wd_a c (xs.set i s)) := fun F hF => by rw [hF]
  refine ef _ (funext fun j => ?_)
  rw [wd_pu_step o2 hi hs]
  simp only [vp_updL]
  split
  · next q => subst q; rfl
  · rfl

