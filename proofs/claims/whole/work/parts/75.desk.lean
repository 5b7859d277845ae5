/-! WriterDesk: edgesTogether, count -/
def dk_et (V : dk_V) : Nat → Nat
  | 0 => 0
  | k + 1 => dk_et V k + (V.1 k).2.1.length
theorem dk_et_le {V : dk_V} (h : ∀ k, k < 6 → (V.1 k).2.1.length ≤ 24) : ∀ k, k ≤ 6 → dk_et V k ≤ 24 * k
  | 0, _ => by simp [dk_et]
  | k + 1, hk => by have := dk_et_le h k (by omega); have := h k (by omega); simp only [dk_et]; omega
set_option maxRecDepth 100000 in
set_option maxHeartbeats 4000000 in
theorem dk_et_l {w : rz_w} {d : Nat} {G : rz_G} {z : Nat} {V : dk_V} {Q : Option Value → rz_G → Prop} (h : dk G z V) (hQ : Q (some (.int (nI (dk_et V 6)))) G) : ∀ k i, i + k = 6 → rz_T w d 0 0 m_Desk_edgesTogether 0 0 4 [some (.ref z), some (.int (nI (dk_et V i))), some (.int (nI i))] [] G Q := by
  obtain ⟨hob, hma⟩ := h 0 (by decide)
  have h24 : ∀ k, k < 6 → (V.1 k).2.1.length ≤ 24 := fun k hk => by obtain ⟨S, -, hm, -, -⟩ := dk_m h hk; exact hm.2.2.2.2.1
  intro k
  induction k with
  | zero =>
    intro i hi
    have : i = 6 := by omega
    subst this
    refine rz_blk' [(.iload_n 2, 1, 0, 0), (.bipush 6, 2, 0, 0), (.if_icmp .ge 21, 3, 0, 0)] (by decide +kernel) (Nat.le_refl _) (Nat.le_refl _) (fun K R hK hR => ?_)
    simp only [rw_b6, ↓rx_bipush, ↓rx_if_icmp_ge, ↓rx_iload_n2, ↓rx_nil, ↓ry_i2, ↓ry_li0s, ↓ry_li0z, rz_set, rz_nol, rz_clr, List.set_cons_zero, List.set_cons_succ, rz_tr, Nat.reduceAdd, Int.reduceAdd, Int.reduceToNat, Int.reduceSub, Int.reduceNeg, Int.cast_ofNat_Int]
    refine ⟨fun _ => hK _ _ _ _ ?_, fun q => absurd (Int32.le_refl _) q⟩
    refine rz_blk' [(.iload_n 1, 1, 0, 0), (.ireturn, 1, 0, 0)] (by decide +kernel) (Nat.le_refl _) (Nat.le_refl _) (fun K R hK hR => ?_)
    simp only [↓rx_iload_n1, ↓rx_ireturn, ↓rx_nil, ↓ry_li0s, ↓ry_li0z, rz_set, rz_nol, rz_clr, List.set_cons_zero, List.set_cons_succ, rz_tr, Nat.reduceAdd, Int.reduceAdd, Int.reduceToNat, Int.reduceSub, Int.reduceNeg, Int.cast_ofNat_Int]
    exact hR _ _ (rz_nb_i (by decide)) hQ
  | succ k ih =>
    intro i hi
    obtain ⟨S, hmc, hm, -, -⟩ := dk_m h (show i < 6 by omega)
    have hmo := mc_c hmc
    have i1 := hm.2.2.2.1
    refine rz_blk' [(.iload_n 2, 1, 0, 0), (.bipush 6, 2, 0, 0), (.if_icmp .ge 21, 3, 0, 0), (.iload_n 1, 1, 0, 0), (.aload_n 0, 1, 0, 0), (.getfield 11, 3, 9, 0), (.iload_n 2, 1, 0, 0), (.aaload, 1, 0, 0)] (by decide +kernel) (Nat.le_refl _) (Nat.le_refl _) (fun K R hK hR => ?_)
    simp only [Nat.reduceEqDiff, false_or, or_false, or_true, reduceIte, rw_b6, ↓rx_aaload, ↓rx_aload_n0, ↓rx_bipush, ↓rx_getfield, ↓rx_if_icmp_ge, ↓rx_iload_n1, ↓rx_iload_n2, ↓rx_nil, ↓ry_fvs, ↓ry_fvz, ↓ry_i2, ↓ry_li0s, ↓ry_li0z, ↓ry_lr0s, ↓ry_lr0z, ↓ry_obu, ↓ry_r1, ↓ry_ri, true_and, true_or, ↓rh_ob hob, dk_fs, ↓rh_ra hma, va_rfs, rz_set, rz_nol, rz_clr, List.set_cons_zero, List.set_cons_succ, rz_tr, Nat.reduceAdd, Int.reduceAdd, Int.reduceToNat, Int.reduceSub, Int.reduceNeg, Int.cast_ofNat_Int]
    rw [nI_leI (by decide) (by omega), nI_clamp (by omega)]
    refine ⟨fun q => by omega, fun _ => ⟨vp_in_nI (by omega) (by decide), hK _ _ _ _ ?_⟩⟩
    refine rz_blk' [(.getfield 90, 3, 2, 1), (.iadd, 1, 0, 0), (.istore_n 1, 1, 0, 0)] (by decide +kernel) (Nat.le_refl _) (Nat.le_refl _) (fun K R hK hR => ?_)
    simp only [↓rx_getfield, ↓rx_iadd, ↓rx_istore_n1, ↓rx_nil, ↓ry_fvs, ↓ry_fvz, ↓ry_i1, ↓ry_i2, ↓ry_obu, ↓ry_r1, ↓rh_ob hmo, mc_fs, i1, nI_add, rz_set, rz_nol, rz_clr, List.set_cons_zero, List.set_cons_succ, rz_tr, Nat.reduceAdd, Int.reduceAdd, Int.reduceToNat, Int.reduceSub, Int.reduceNeg, Int.cast_ofNat_Int]
    refine hK _ _ _ _ ?_
    refine rz_blk' [(.iinc 2 1, 3, 0, 0), (.goto (-21), 3, 0, 0)] (by decide +kernel) (Nat.le_refl _) (Nat.le_refl _) (fun K R hK hR => ?_)
    simp only [rw_c1, ↓rx_goto, ↓rx_iinc, ↓rx_nil, ↓ry_li0s, ↓ry_li0z, nI_add, rz_set, rz_nol, rz_clr, List.set_cons_zero, List.set_cons_succ, rz_tr, Nat.reduceAdd, Int.reduceAdd, Int.reduceToNat, Int.reduceSub, Int.reduceNeg, Int.cast_ofNat_Int]
    exact hK _ _ _ _ (ih (i + 1) (by omega))
set_option maxRecDepth 100000 in
set_option maxHeartbeats 4000000 in
theorem c_Desk_edgesTogether {w : rz_w} {d : Nat} {G : rz_G} {z : Nat} {V : dk_V} (h : dk G z V) : rz_C w d 0 0 y_Desk_edgesTogether m_Desk_edgesTogether [.ref z] G (fun r G' => r = some (.int (nI (dk_et V 6))) ∧ G' = G) := by
  refine rz_enter' [some (.ref z), none, none] (by decide +kernel) rfl rfl (Nat.le_of_ble_eq_true rfl) rfl ?_
  refine rz_blk' [(.iconst 0, 1, 0, 0), (.istore_n 1, 1, 0, 0), (.iconst 0, 1, 0, 0), (.istore_n 2, 1, 0, 0)] (by decide +kernel) (Nat.le_refl _) (Nat.le_refl _) (fun K R hK hR => ?_)
  simp only [rw_c0, ↓rx_iconst, ↓rx_istore_n1, ↓rx_istore_n2, ↓rx_nil, ↓ry_i1, rz_set, rz_nol, rz_clr, List.set_cons_zero, List.set_cons_succ, rz_tr, Nat.reduceAdd, Int.reduceAdd, Int.reduceToNat, Int.reduceSub, Int.reduceNeg, Int.cast_ofNat_Int]
  exact hK _ _ _ _ (dk_et_l h ⟨rfl, rfl⟩ 6 0 rfl)
section RZTS
variable {w : rz_w} {d mc ms : Nat} {M : rz_M} {kc kn pc : Nat} {Lc : rz_L} {S : List Value} {G : rz_G} {Q : Option Value → rz_G → Prop}
theorem rz_tabO {dflt lo hi : Int} {offs : Array Int} {len : Nat} {x : Int32} {tgt : Nat} (hd : decode M.1 pc = .ok (.tableswitch dflt lo hi offs, len)) (h : x.toInt < lo ∨ hi < x.toInt) (ht : (pc : Int) + dflt = (tgt : Int)) (k : rz_T w d mc ms M kc kn tgt Lc S G Q) : rz_T w d mc ms M kc kn pc Lc (.int x :: S) G Q := fun p l e s m args below meth c H locs ls hc hS hR hl => lv_tableOut hc.1 hc.2.1 hd h ht (k p l e s m args below meth c H locs ls hc hS hR hl)
theorem rz_tabI {dflt lo hi : Int} {offs : Array Int} {len : Nat} {x : Int32} {off : Int} {tgt : Nat} (hd : decode M.1 pc = .ok (.tableswitch dflt lo hi offs, len)) (h1 : ¬ x.toInt < lo) (h2 : ¬ hi < x.toInt) (ho : offs[(x.toInt - lo).toNat]? = some off) (ht : (pc : Int) + off = (tgt : Int)) (k : rz_T w d mc ms M kc kn tgt Lc S G Q) : rz_T w d mc ms M kc kn pc Lc (.int x :: S) G Q := fun p l e s m args below meth c H locs ls hc hS hR hl => lv_tableIn hc.1 hc.2.1 hd h1 h2 ho ht (k p l e s m args below meth c H locs ls hc hS hR hl)
end RZTS
/-- count(what) -/
def dk_cn (V : dk_V) (x : Int32) : Int32 := if x = nI 0 then nI V.2.1.length else if x = nI 1 then nI (dk_et V 6) else if x = nI 2 then nI V.2.2.1.2.1.length else -1
set_option maxRecDepth 100000 in
set_option maxHeartbeats 4000000 in
theorem c_Desk_count {w : rz_w} {d : Nat} {G : rz_G} {z : Nat} {V : dk_V} (h : dk G z V) (x : Int32) : rz_C w (d + 1) 0 0 y_Desk_count m_Desk_count [.ref z, .int x] G (fun r G' => r = some (.int (dk_cn V x)) ∧ G' = G) := by
  obtain ⟨hob, hma⟩ := h 0 (by decide)
  have hw : wd_is G (z + 2) 257 V.2.1 := h 1 (by decide)
  obtain ⟨I, A, J, X, P, hsm, hxo, hsv⟩ := dk_made h
  have hmd : z + (if V.2.2.2 = true then 1255 else 928) = dk_sp z (!V.2.2.2) := by cases V.2.2.2 <;> rfl
  have hsc : G (dk_sp z (!V.2.2.2)) = some (.inr (7, sm_fs (dk_sp z (!V.2.2.2)) I P)) := hsm 0 (by decide)
  have i0 := hsv.1
  refine rz_enter' [some (.ref z), some (.int x)] (by decide +kernel) rfl rfl (Nat.le_of_ble_eq_true rfl) rfl ?_
  refine rz_blk' [(.iload_n 1, 1, 0, 0)] (by decide +kernel) (Nat.le_refl _) (Nat.le_refl _) (fun K R hK hR => ?_)
  simp only [↓rx_iload_n1, ↓rx_nil, ↓ry_li0s, ↓ry_li0z]
  refine hK _ _ _ _ ?_
  have hdec : decode m_Desk_count.1 1 = .ok (.tableswitch 48 0 2 #[27, 35, 40], 27) := by decide +kernel
  by_cases c0 : x = nI 0
  · subst c0
    refine rz_tabI (tgt := 28) hdec (by decide) (by decide) (off := 27) (by decide) (by decide) ?_
    refine rz_blk' [(.aload_n 0, 1, 0, 0), (.getfield 20, 3, 9, 1), (.getfield 197, 3, 0, 1), (.ireturn, 1, 0, 0)] (by decide +kernel) (Nat.le_refl _) (Nat.le_refl _) (fun K R hK hR => ?_)
    simp only [↓rx_aload_n0, ↓rx_getfield, ↓rx_ireturn, ↓rx_nil, ↓ry_fvs, ↓ry_fvz, ↓ry_lr0s, ↓ry_lr0z, ↓ry_obu, ↓ry_r1, ↓rh_ob hob, dk_fs, ↓rh_ob hw.1, rz_set, rz_nol, rz_clr, List.set_cons_zero, List.set_cons_succ, rz_tr, Nat.reduceAdd, Int.reduceAdd, Int.reduceToNat, Int.reduceSub, Int.reduceNeg, Int.cast_ofNat_Int]
    exact hR _ _ (rz_nb_i (by decide)) ⟨by simp only [dk_cn, if_pos], rfl⟩
  by_cases c1 : x = nI 1
  · subst c1
    refine rz_tabI (tgt := 36) hdec (by decide) (by decide) (off := 35) (by decide) (by decide) ?_
    refine rz_blk' [(.aload_n 0, 1, 0, 0)] (by decide +kernel) (Nat.le_refl _) (Nat.le_refl _) (fun K R hK hR => ?_)
    simp only [↓rx_aload_n0, ↓rx_nil, ↓ry_lr0s, ↓ry_lr0z, rz_set, rz_nol, rz_clr, List.set_cons_zero, List.set_cons_succ, rz_tr, Nat.reduceAdd, Int.reduceAdd, Int.reduceToNat, Int.reduceSub, Int.reduceNeg, Int.cast_ofNat_Int]
    refine hK _ _ _ _ ?_
    refine rz_cV (As := []) (b := z) (S := []) l_Desk_200 (by decide +kernel) rfl hob rfl (Nat.le_of_ble_eq_true rfl) (Nat.le_refl _) (Nat.le_refl _) (c_Desk_edgesTogether h) (fun r G' hr => ?_)
    obtain ⟨rfl, hg⟩ := hr
    have hg := hg.symm
    subst hg
    simp only [Option.toList, List.cons_append, List.nil_append]
    refine rz_blk' [(.ireturn, 1, 0, 0)] (by decide +kernel) (Nat.le_refl _) (Nat.le_refl _) (fun K R hK hR => ?_)
    simp only [↓rx_ireturn, ↓rx_nil, rz_set, rz_nol, rz_clr, List.set_cons_zero, List.set_cons_succ, rz_tr, Nat.reduceAdd, Int.reduceAdd, Int.reduceToNat, Int.reduceSub, Int.reduceNeg, Int.cast_ofNat_Int]
    exact hR _ _ (rz_nb_i (by decide)) ⟨by simp only [dk_cn, if_neg c0, if_pos], rfl⟩
  by_cases c2 : x = nI 2
  · subst c2
    refine rz_tabI (tgt := 41) hdec (by decide) (by decide) (off := 40) (by decide) (by decide) ?_
    refine rz_blk' [(.aload_n 0, 1, 0, 0), (.getfield 65, 3, 9, 8), (.getfield 182, 3, 7, 0), (.ireturn, 1, 0, 0)] (by decide +kernel) (Nat.le_refl _) (Nat.le_refl _) (fun K R hK hR => ?_)
    simp only [↓rx_aload_n0, ↓rx_getfield, ↓rx_ireturn, ↓rx_nil, ↓ry_fvs, ↓ry_fvz, ↓ry_lr0s, ↓ry_lr0z, ↓ry_obu, ↓ry_r1, ↓rh_ob hob, dk_fs, hmd, ↓rh_ob hsc, sm_fs, i0, rz_set, rz_nol, rz_clr, List.set_cons_zero, List.set_cons_succ, rz_tr, Nat.reduceAdd, Int.reduceAdd, Int.reduceToNat, Int.reduceSub, Int.reduceNeg, Int.cast_ofNat_Int]
    exact hR _ _ (rz_nb_i (by decide)) ⟨by simp only [dk_cn, if_neg c0, if_neg c1, if_pos], rfl⟩
  refine rz_tabO (tgt := 49) hdec ?_ (by decide) ?_
  · have e : ∀ n, n < 2 ^ 31 → x ≠ nI n → x.toInt ≠ n := fun n hn q q2 => q (Int32.toInt_inj.mp (by rw [nI_toInt hn]; exact q2))
    have a0 := e 0 (by decide) c0
    have a1 := e 1 (by decide) c1
    have a2 := e 2 (by decide) c2
    omega
  refine rz_blk' [(.iconst (-1), 1, 0, 0), (.ireturn, 1, 0, 0)] (by decide +kernel) (Nat.le_refl _) (Nat.le_refl _) (fun K R hK hR => ?_)
  simp only [rw_cm1, ↓rx_iconst, ↓rx_ireturn, ↓rx_nil, rz_set, rz_nol, rz_clr, List.set_cons_zero, List.set_cons_succ, rz_tr, Nat.reduceAdd, Int.reduceAdd, Int.reduceToNat, Int.reduceSub, Int.reduceNeg, Int.cast_ofNat_Int]
  exact hR _ _ (rz_nb_i (by decide)) ⟨by simp only [dk_cn, if_neg c0, if_neg c1, if_neg c2], rfl⟩
