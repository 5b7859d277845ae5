/-! WriterDesk$ResidualSearch: verdictOn -/
theorem mv_l1c {m : mv_T} {al : Nat} (h : mv_w3 m) : ∀ i, i ≤ (mv_so m al 18).length → mv_l1 m al i ≤ 3
  | 0, _ => by have := h.2.2.1; simp only [mv_l1]; omega
  | i + 1, hi => by
    have ih := mv_l1c (al := al) h i (by omega)
    have hl : (mv_so m al 18).getD i 0 < m.2.1.length := by
      rw [List.getD_eq_getElem?_getD, List.getElem?_eq_getElem (by omega)]
      exact (mv_so_mem (List.getElem_mem _)).1
    have := (h.1 _ hl).1
    simp only [mv_l1]; omega
theorem mv_l2c {m : mv_T} {cl al : Nat} (h : mv_w3 m) : ∀ q, mv_l2 m cl al q ≤ 3
  | 0 => mv_l1c h _ (Nat.le_refl _)
  | q + 1 => by
    have ih := mv_l2c (cl := cl) (al := al) h q
    simp only [mv_l2]
    split
    · cases hf : m.2.2.1 q with
      | none => simp; omega
      | some xs =>
        have := (h.2.1 q xs hf).1
        simp only [Option.getD_some]; omega
    · exact ih
theorem mv_lg3 {m : mv_T} {cl al : Nat} (h : mv_w3 m) : mv_lg m cl al ≤ 3 := mv_l2c h _
theorem hp_cnt6 (s : Nat) : hp_cnt s ≤ 6 := by
  have := List.countP_le_length (p := fun q => s.testBit q) (l := List.range 6)
  simpa [hp_cnt] using this
def rs_gn (S : rs_sT) (i : Nat) : rs_nd := S.1.getD i (0, 0, [], [])
def rs_in (m : mv_T) (al bd : Nat) : Nat → Nat → rs_sT → rs_sT
  | 0, _, S => S
  | k + 1, i, S => if S.2.1 then S else rs_in m al bd k (i + 1) (rs_fld bd S (rs_nk m al (rs_gn S i) 3 0))
def rs_lv (m : mv_T) (al bd : Nat) : Nat → Nat → rs_sT → Nat
  | 0, _, _ => 0
  | k + 1, dn, S => if dn < S.1.length then (if (rs_in m al bd (S.1.length - dn) dn S).2.1 then 1 else if (rs_in m al bd (S.1.length - dn) dn S).2.2 then 2 else rs_lv m al bd k S.1.length (rs_in m al bd (S.1.length - dn) dn S)) else 0
def rs_bd (m : mv_T) (cl : Nat) : Nat := hp_cnt (mv_al m cl) * hp_cnt (mv_al m cl) * mv_lg m cl (mv_al m cl)
def rs_s0 (m : mv_T) (cl : Nat) : rs_sT := (if 0 < hp_cnt (mv_al m cl) then [(0, 0, [], [])] else [], false, false)
def rs_ver (m : mv_T) (cl : Nat) : Nat := rs_lv m (mv_al m cl) (rs_bd m cl) 3001 0 (rs_s0 m cl)
theorem rs_v_len {bd : Nat} {S : rs_sT} {n : rs_nd} : S.1.length ≤ (rs_v bd S n).1.length := by
  simp only [rs_v, rs_k]
  split
  · exact Nat.le_refl _
  · split
    · exact Nat.le_refl _
    · split
      · exact Nat.le_refl _
      · split
        · simp
        · exact Nat.le_refl _
theorem rs_fld_len {bd : Nat} : ∀ (ns : List rs_nd) (S : rs_sT), S.1.length ≤ (rs_fld bd S ns).1.length := by
  intro ns
  induction ns with
  | nil => intro S; exact Nat.le_refl _
  | cons n ns ih => intro S; exact Nat.le_trans rs_v_len (ih _)
theorem rs_in_len {m : mv_T} {al bd : Nat} : ∀ (k i : Nat) (S : rs_sT), S.1.length ≤ (rs_in m al bd k i S).1.length := by
  intro k
  induction k with
  | zero => intro i S; exact Nat.le_refl _
  | succ k ih =>
    intro i S
    simp only [rs_in]
    split
    · exact Nat.le_refl _
    · exact Nat.le_trans (rs_fld_len _ _) (ih _ _)
theorem rz_b_1 {c : Bool} : ¬ rz_b c = 0 ↔ c = true := by cases c <;> simp [rz_b]
section RSV
variable {w : rz_w} {d : Nat} {G : rz_G} {a : Nat} {P : Nat → Nat} {M1 : mc_S} {m : mv_T} {cl bd : Nat} {Q : Option Value → rz_G → Prop} {z1 z2 z3 z4 : Option Value}
set_option maxRecDepth 100000 in
set_option maxHeartbeats 4000000 in
theorem rs_ve_i (h1 : mc_at' G (P 0) a 13 M1 m cl) (h3 : mv_w3 m) (hbd : bd ≤ 108) {en : Nat} :
    ∀ (k i : Nat) (S : rs_sT) (I : Nat → Int32) (A : Nat → Nat → Int32) (J : Nat → Nat → Int64) (X : Nat → List Nat), i + k = en → en ≤ S.1.length → rs_st I A J bd S → rs_xo X →
      (∀ I A J X z6, rs_st I A J bd (rs_in m (mv_al m cl) bd k i S) → rs_xo X → rz_T w (d + 6) 0 0 m_Res_verdictOn 0 0 128 [some (.ref a), z1, z2, z3, z4, some (.int (nI en)), z6] [] (rs_put G a I A J X P) Q) →
      rz_T w (d + 6) 0 0 m_Res_verdictOn 0 0 102 [some (.ref a), z1, z2, z3, z4, some (.int (nI en)), some (.int (nI i))] [] (rs_put G a I A J X P) Q := by
  intro k
  induction k with
  | zero =>
    intro i S I A J X hk hen hS hX hc
    have h3000 := hS.1.2.2.2.1
    refine rz_blk' [(.iload 6, 2, 0, 0), (.iload 5, 2, 0, 0), (.if_icmp .ge 22, 3, 0, 0)] (by decide +kernel) (Nat.le_refl _) (Nat.le_refl _) (fun K R hK hR => ?_)
    simp only [↓rx_if_icmp_ge, ↓rx_iload, ↓rx_nil, ↓ry_i2, ↓ry_li0s, ↓ry_li0z, ↓rs_ob, ↓rs_l2, ↓rs_i3, ↓rs_n3, ↓rs_l4, ↓rs_ob1, rz_set, rz_nol, rz_clr, List.set_cons_zero, List.set_cons_succ, rz_tr, Nat.reduceAdd, Int.reduceAdd, Int.reduceToNat, Int.reduceSub, Int.reduceNeg, Int.cast_ofNat_Int]
    rw [nI_leI (by omega) (by omega)]
    exact ⟨fun q => hK _ _ _ _ (hc I A J X _ hS hX), fun q => by omega⟩
  | succ k ih =>
    intro i S I A J X hk hen hS hX hc
    have h3000 := hS.1.2.2.2.1
    obtain ⟨s1, s2, s3, s4⟩ := id hS
    simp only [rs_in] at hc
    refine rz_blk' [(.iload 6, 2, 0, 0), (.iload 5, 2, 0, 0), (.if_icmp .ge 22, 3, 0, 0), (.aload_n 0, 1, 0, 0), (.getfield 65, 3, 6, 8), (.ifCond .ne 15, 3, 0, 0), (.aload_n 0, 1, 0, 0), (.iload 6, 2, 0, 0)] (by decide +kernel) (Nat.le_refl _) (Nat.le_refl _) (fun K R hK hR => ?_)
    simp only [↓rx_aload_n0, ↓rx_getfield, ↓rx_ifCond_ne, ↓rx_if_icmp_ge, ↓rx_iload, ↓rx_nil, ↓ry_fvs, ↓ry_fvz, ↓ry_i1, ↓ry_i2, ↓ry_li0s, ↓ry_li0z, ↓ry_lr0s, ↓ry_lr0z, ↓ry_obu, ↓ry_r1, ↓rs_ob, ↓rs_l2, ↓rs_i3, ↓rs_n3, ↓rs_l4, ↓rs_ob1, s3, rz_set, rz_nol, rz_clr, List.set_cons_zero, List.set_cons_succ, rz_tr, Nat.reduceAdd, Int.reduceAdd, Int.reduceToNat, Int.reduceSub, Int.reduceNeg, Int.cast_ofNat_Int]
    rw [nI_leI (by omega) (by omega), rz_b_0]
    refine ⟨fun q => by omega, fun q => ⟨fun q2 => hK _ _ _ _ ?_, fun q2 => hK _ _ _ _ ?_⟩⟩
    · have q2 : S.2.1 = true := by simpa using q2
      rw [q2, if_pos rfl] at hc
      exact hc I A J X _ hS hX
    rw [q2] at hc
    simp only [Bool.false_eq_true, if_false] at hc
    obtain ⟨n, hn⟩ : ∃ n, S.1[i]? = some n := ⟨_, List.getElem?_eq_getElem (by omega)⟩
    have hgn : rs_gn S i = n := by simp [rs_gn, hn]
    rw [hgn] at hc
    refine rz_cV (As := [.int (nI i)]) (b := a) (S := []) l_Res_83 (by decide +kernel) rfl rs_at0 rfl (Nat.le_of_ble_eq_true rfl) (Nat.le_refl _) (Nat.le_refl _) (c_Res_spread h1 h3 hbd hS hX hn) (fun r G' hr => ?_)
    obtain ⟨rfl, I', A', J', X', rfl, hS', hX'⟩ := hr
    simp only [Option.toList, List.nil_append]
    refine rz_blk' [(.iinc 6 1, 3, 0, 0), (.goto (-23), 3, 0, 0)] (by decide +kernel) (Nat.le_refl _) (Nat.le_refl _) (fun K R hK hR => ?_)
    simp only [rw_c1, ↓rx_goto, ↓rx_iinc, ↓rx_nil, ↓ry_li0s, ↓ry_li0z, ↓rs_ob, ↓rs_l2, ↓rs_i3, ↓rs_n3, ↓rs_l4, ↓rs_ob1, nI_add, rz_set, rz_nol, rz_clr, List.set_cons_zero, List.set_cons_succ, rz_tr, Nat.reduceAdd, Int.reduceAdd, Int.reduceToNat, Int.reduceSub, Int.reduceNeg, Int.cast_ofNat_Int]
    exact hK _ _ _ _ (ih (i + 1) _ I' A' J' X' (by omega) (Nat.le_trans hen (rs_fld_len _ _)) hS' hX' hc)

set_option maxRecDepth 100000 in
set_option maxHeartbeats 4000000 in
theorem rs_ve_o {x2 : Int32} (h1 : mc_at' G (P 0) a 13 M1 m cl) (h3 : mv_w3 m) (hbd : bd ≤ 108) :
    ∀ (k t dn : Nat) (S : rs_sT) (I : Nat → Int32) (A : Nat → Nat → Int32) (J : Nat → Nat → Int64) (X : Nat → List Nat) (z5 z6 : Option Value), t + k = 3001 → dn ≤ S.1.length → rs_st I A J bd S → rs_xo X →
      (∀ I A J X, rs_xo X → (∃ S, rs_st I A J bd S) → Q (some (.int (nI (rs_lv m (mv_al m cl) bd k dn S)))) (rs_put G a I A J X P)) →
      rz_T w (d + 6) 0 0 m_Res_verdictOn 0 0 71 [some (.ref a), z1, some (.int x2), some (.int (nI dn)), some (.int (nI t)), z5, z6] [] (rs_put G a I A J X P) Q := by
  intro k
  induction k with
  | zero =>
    intro t dn S I A J X z5 z6 hk hdn hS hX hc
    refine rz_blk' [(.iload 4, 2, 0, 0), (.sipush 3000, 3, 0, 0), (.if_icmp .gt 79, 3, 0, 0)] (by decide +kernel) (Nat.le_refl _) (Nat.le_refl _) (fun K R hK hR => ?_)
    simp only [rw_s3000, ↓rx_if_icmp_gt, ↓rx_iload, ↓rx_nil, ↓rx_sipush, ↓ry_i2, ↓ry_li0s, ↓ry_li0z, ↓rs_ob, ↓rs_l2, ↓rs_i3, ↓rs_n3, ↓rs_l4, ↓rs_ob1, rz_set, rz_nol, rz_clr, List.set_cons_zero, List.set_cons_succ, rz_tr, Nat.reduceAdd, Int.reduceAdd, Int.reduceToNat, Int.reduceSub, Int.reduceNeg, Int.cast_ofNat_Int]
    rw [nI_ltI (by omega) (by omega)]
    refine ⟨fun q => hK _ _ _ _ ?_, fun q => by omega⟩
    refine rz_blk' [(.iconst 0, 1, 0, 0), (.ireturn, 1, 0, 0)] (by decide +kernel) (Nat.le_refl _) (Nat.le_refl _) (fun K R hK hR => ?_)
    simp only [rw_c0, ↓rx_iconst, ↓rx_ireturn, ↓rx_nil, ↓rs_ob, ↓rs_l2, ↓rs_i3, ↓rs_n3, ↓rs_l4, ↓rs_ob1, rz_set, rz_nol, rz_clr, List.set_cons_zero, List.set_cons_succ, rz_tr, Nat.reduceAdd, Int.reduceAdd, Int.reduceToNat, Int.reduceSub, Int.reduceNeg, Int.cast_ofNat_Int]
    exact hR _ _ (rz_nb_i (by decide)) (hc I A J X hX ⟨S, hS⟩)
  | succ k ih =>
    intro t dn S I A J X z5 z6 hk hdn hS hX hc
    have h3000 := hS.1.2.2.2.1
    obtain ⟨s1, s2, s3, s4⟩ := id hS
    have s10 := s1.1
    simp only [rs_lv] at hc
    refine rz_blk' [(.iload 4, 2, 0, 0), (.sipush 3000, 3, 0, 0), (.if_icmp .gt 79, 3, 0, 0), (.iload_n 3, 1, 0, 0), (.aload_n 0, 1, 0, 0), (.getfield 14, 3, 6, 0), (.getfield 80, 3, 1, 4), (.if_icmp .ge 68, 3, 0, 0)] (by decide +kernel) (Nat.le_refl _) (Nat.le_refl _) (fun K R hK hR => ?_)
    simp only [rw_s3000, ↓rx_aload_n0, ↓rx_getfield, ↓rx_if_icmp_ge, ↓rx_if_icmp_gt, ↓rx_iload, ↓rx_iload_n3, ↓rx_nil, ↓rx_sipush, ↓ry_fvs, ↓ry_fvz, ↓ry_i2, ↓ry_li0s, ↓ry_li0z, ↓ry_lr0s, ↓ry_lr0z, ↓ry_obu, ↓ry_r1, ↓rs_ob, ↓rs_l2, ↓rs_i3, ↓rs_n3, ↓rs_l4, ↓rs_ob1, s10, rz_set, rz_nol, rz_clr, List.set_cons_zero, List.set_cons_succ, rz_tr, Nat.reduceAdd, Int.reduceAdd, Int.reduceToNat, Int.reduceSub, Int.reduceNeg, Int.cast_ofNat_Int]
    rw [nI_ltI (by omega) (by omega), nI_leI (by omega) (by omega)]
    refine ⟨fun q => by omega, fun q => ⟨fun q2 => hK _ _ _ _ ?_, fun q2 => hK _ _ _ _ ?_⟩⟩
    · rw [if_neg (by omega)] at hc
      refine rz_blk' [(.iconst 0, 1, 0, 0), (.ireturn, 1, 0, 0)] (by decide +kernel) (Nat.le_refl _) (Nat.le_refl _) (fun K R hK hR => ?_)
      simp only [rw_c0, ↓rx_iconst, ↓rx_ireturn, ↓rx_nil, ↓rs_ob, ↓rs_l2, ↓rs_i3, ↓rs_n3, ↓rs_l4, ↓rs_ob1, rz_set, rz_nol, rz_clr, List.set_cons_zero, List.set_cons_succ, rz_tr, Nat.reduceAdd, Int.reduceAdd, Int.reduceToNat, Int.reduceSub, Int.reduceNeg, Int.cast_ofNat_Int]
      exact hR _ _ (rz_nb_i (by decide)) (hc I A J X hX ⟨S, hS⟩)
    rw [if_pos (by omega)] at hc
    refine rz_blk' [(.aload_n 0, 1, 0, 0), (.getfield 14, 3, 6, 0), (.getfield 80, 3, 1, 4), (.istore 5, 2, 0, 0)] (by decide +kernel) (Nat.le_refl _) (Nat.le_refl _) (fun K R hK hR => ?_)
    simp only [↓rx_aload_n0, ↓rx_getfield, ↓rx_istore, ↓rx_nil, ↓ry_fvs, ↓ry_fvz, ↓ry_i1, ↓ry_lr0s, ↓ry_lr0z, ↓ry_obu, ↓ry_r1, ↓rs_ob, ↓rs_l2, ↓rs_i3, ↓rs_n3, ↓rs_l4, ↓rs_ob1, s10, rz_set, rz_nol, rz_clr, List.set_cons_zero, List.set_cons_succ, rz_tr, Nat.reduceAdd, Int.reduceAdd, Int.reduceToNat, Int.reduceSub, Int.reduceNeg, Int.cast_ofNat_Int]
    refine hK _ _ _ _ ?_
    refine rz_blk' [(.iload_n 3, 1, 0, 0), (.istore 6, 2, 0, 0)] (by decide +kernel) (Nat.le_refl _) (Nat.le_refl _) (fun K R hK hR => ?_)
    simp only [↓rx_iload_n3, ↓rx_istore, ↓rx_nil, ↓ry_i1, ↓ry_li0s, ↓ry_li0z, ↓rs_ob, ↓rs_l2, ↓rs_i3, ↓rs_n3, ↓rs_l4, ↓rs_ob1, rz_set, rz_nol, rz_clr, List.set_cons_zero, List.set_cons_succ, rz_tr, Nat.reduceAdd, Int.reduceAdd, Int.reduceToNat, Int.reduceSub, Int.reduceNeg, Int.cast_ofNat_Int]
    refine hK _ _ _ _ (rs_ve_i h1 h3 hbd (en := S.1.length) (S.1.length - dn) dn S I A J X (by omega) (Nat.le_refl _) hS hX (fun I' A' J' X' z6' hS' hX' => ?_))
    have hlen : S.1.length ≤ (rs_in m (mv_al m cl) bd (S.1.length - dn) dn S).1.length := rs_in_len _ _ _
    generalize rs_in m (mv_al m cl) bd (S.1.length - dn) dn S = S2 at *
    obtain ⟨t1, t2, t3, t4⟩ := id hS'
    refine rz_blk' [(.aload_n 0, 1, 0, 0), (.getfield 65, 3, 6, 8), (.ifCond .eq 5, 3, 0, 0), (.iconst 1, 1, 0, 0), (.ireturn, 1, 0, 0)] (by decide +kernel) (Nat.le_refl _) (Nat.le_refl _) (fun K R hK hR => ?_)
    simp only [rw_c1, ↓rx_aload_n0, ↓rx_getfield, ↓rx_iconst, ↓rx_ifCond_eq, ↓rx_ireturn, ↓rx_nil, ↓ry_fvs, ↓ry_fvz, ↓ry_i1, ↓ry_lr0s, ↓ry_lr0z, ↓ry_obu, ↓ry_r1, ↓rs_ob, ↓rs_l2, ↓rs_i3, ↓rs_n3, ↓rs_l4, ↓rs_ob1, t3, rz_set, rz_nol, rz_clr, List.set_cons_zero, List.set_cons_succ, rz_tr, Nat.reduceAdd, Int.reduceAdd, Int.reduceToNat, Int.reduceSub, Int.reduceNeg, Int.cast_ofNat_Int]
    rw [rz_b_0]
    refine ⟨fun q5 => hK _ _ _ _ ?_, fun q5 => ?_⟩
    rotate_left
    · have q5 : S2.2.1 = true := by simpa using q5
      rw [q5, if_pos rfl] at hc
      exact hR _ _ (rz_nb_i (by decide)) (hc I' A' J' X' hX' ⟨S2, hS'⟩)
    rw [q5] at hc
    simp only [Bool.false_eq_true, if_false] at hc
    refine rz_blk' [(.aload_n 0, 1, 0, 0), (.getfield 69, 3, 6, 9), (.ifCond .eq 5, 3, 0, 0), (.iconst 2, 1, 0, 0), (.ireturn, 1, 0, 0)] (by decide +kernel) (Nat.le_refl _) (Nat.le_refl _) (fun K R hK hR => ?_)
    simp only [rw_c2, ↓rx_aload_n0, ↓rx_getfield, ↓rx_iconst, ↓rx_ifCond_eq, ↓rx_ireturn, ↓rx_nil, ↓ry_fvs, ↓ry_fvz, ↓ry_i1, ↓ry_lr0s, ↓ry_lr0z, ↓ry_obu, ↓ry_r1, ↓rs_ob, ↓rs_l2, ↓rs_i3, ↓rs_n3, ↓rs_l4, ↓rs_ob1, t4, rz_set, rz_nol, rz_clr, List.set_cons_zero, List.set_cons_succ, rz_tr, Nat.reduceAdd, Int.reduceAdd, Int.reduceToNat, Int.reduceSub, Int.reduceNeg, Int.cast_ofNat_Int]
    rw [rz_b_0]
    refine ⟨fun q6 => hK _ _ _ _ ?_, fun q6 => ?_⟩
    rotate_left
    · have q6 : S2.2.2 = true := by simpa using q6
      rw [q6, if_pos rfl] at hc
      exact hR _ _ (rz_nb_i (by decide)) (hc I' A' J' X' hX' ⟨S2, hS'⟩)
    rw [q6] at hc
    simp only [Bool.false_eq_true, if_false] at hc
    refine rz_blk' [(.iload 5, 2, 0, 0), (.istore_n 3, 1, 0, 0)] (by decide +kernel) (Nat.le_refl _) (Nat.le_refl _) (fun K R hK hR => ?_)
    simp only [↓rx_iload, ↓rx_istore_n3, ↓rx_nil, ↓ry_i1, ↓ry_li0s, ↓ry_li0z, ↓rs_ob, ↓rs_l2, ↓rs_i3, ↓rs_n3, ↓rs_l4, ↓rs_ob1, rz_set, rz_nol, rz_clr, List.set_cons_zero, List.set_cons_succ, rz_tr, Nat.reduceAdd, Int.reduceAdd, Int.reduceToNat, Int.reduceSub, Int.reduceNeg, Int.cast_ofNat_Int]
    refine hK _ _ _ _ ?_
    refine rz_blk' [(.iinc 4 1, 3, 0, 0), (.goto (-81), 3, 0, 0)] (by decide +kernel) (Nat.le_refl _) (Nat.le_refl _) (fun K R hK hR => ?_)
    simp only [rw_c1, ↓rx_goto, ↓rx_iinc, ↓rx_nil, ↓ry_li0s, ↓ry_li0z, ↓rs_ob, ↓rs_l2, ↓rs_i3, ↓rs_n3, ↓rs_l4, ↓rs_ob1, nI_add, rz_set, rz_nol, rz_clr, List.set_cons_zero, List.set_cons_succ, rz_tr, Nat.reduceAdd, Int.reduceAdd, Int.reduceToNat, Int.reduceSub, Int.reduceNeg, Int.cast_ofNat_Int]
    exact hK _ _ _ _ (ih (t + 1) S.1.length S2 I' A' J' X' _ _ (by omega) hlen hS' hX' hc)
end RSV

set_option maxRecDepth 100000 in
set_option maxHeartbeats 4000000 in
/-- verdictOn(asked) -/
theorem c_Res_verdictOn {w : rz_w} {d : Nat} {G : rz_G} {a : Nat} {I : Nat → Int32} {A : Nat → Nat → Int32} {J : Nat → Nat → Int64} {X : Nat → List Nat} {P : Nat → Nat} {M1 : mc_S} {m : mv_T} {cl am bd0 : Nat} {S : rs_sT} (h1 : mc_at' G am a 13 M1 m cl) (h3 : mv_w3 m) (hS : rs_st I A J bd0 S) (hX : rs_xo X) :
    rz_C w (d + 6) 0 0 y_Res_verdictOn m_Res_verdictOn [.ref a, .ref am] (rs_put G a I A J X P) (fun r G' => r = some (.int (nI (rs_ver m cl))) ∧ ∃ I' A' J' X' S', G' = rs_put G a I' A' J' X' (va_up P 0 am) ∧ rs_xo X' ∧ rs_st I' A' J' (rs_bd m cl) S') := by
  have hb : rs_bd m cl ≤ 108 := by
    have h6 := hp_cnt6 (mv_al m cl)
    have h3' := mv_lg3 (cl := cl) (al := mv_al m cl) h3
    simp only [rs_bd]
    have := Nat.mul_le_mul (Nat.mul_le_mul h6 h6) h3'
    omega
  have h6 := hp_cnt6 (mv_al m cl)
  have hlg := mv_lg3 (cl := cl) (al := mv_al m cl) h3
  have hal := mv_al64 h1.2.1
  have h1' : mc_at' G (va_up P 0 am 0) a 13 M1 m cl := by rw [va_up_self]; exact h1
  have ob : ∀ I A J X P, (rs_put G a I A J X P) am = some (.inr (2, mc_fs am M1.1 M1.2.2.2.2)) := fun I A J X P => rs_mc h1 0 (by decide)
  have i1 := fun I A J X P => c_Mach_longestWord (w := w) (d := d + 4) (G := rs_put G a I A J X P) (a := am) (I := M1.1) (A := M1.2.1) (J := M1.2.2.1) (X := M1.2.2.2.1) (P := M1.2.2.2.2) h1.2.1 h1.2.2.1
  simp only [mc_id (rs_mc h1)] at i1
  obtain ⟨s1, s2, s3, s4⟩ := id hS
  refine rz_enter' [some (.ref a), some (.ref am), none, none, none, none, none] (by decide +kernel) rfl rfl (Nat.le_of_ble_eq_true rfl) rfl ?_
  refine rz_blk' [(.aload_n 0, 1, 0, 0), (.aload_n 1, 1, 0, 0), (.putfield 42, 3, 6, 6)] (by decide +kernel) (Nat.le_refl _) (Nat.le_refl _) (fun K R hK hR => ?_)
  simp only [List.length_cons, List.length_nil, Nat.reduceLT, rf_6_6, ↓rx_aload_n0, ↓rx_aload_n1, ↓rx_nil, ↓rx_putfield, ↓ry_lr0s, ↓ry_lr0z, ↓ry_obu, ↓ry_vr, true_and, ↓rs_ob, ↓rs_l2, ↓rs_i3, ↓rs_n3, ↓rs_l4, ↓rs_ob1, rs_u6, rz_set, rz_nol, rz_clr, List.set_cons_zero, List.set_cons_succ, rz_tr, Nat.reduceAdd, Int.reduceAdd, Int.reduceToNat, Int.reduceSub, Int.reduceNeg, Int.cast_ofNat_Int]
  refine hK _ _ _ _ ?_
  refine rz_blk' [(.aload_n 1, 1, 0, 0), (.getfield 46, 3, 2, 10)] (by decide +kernel) (Nat.le_refl _) (Nat.le_refl _) (fun K R hK hR => ?_)
  simp only [↓rx_aload_n1, ↓rx_getfield, ↓rx_nil, ↓ry_fvs, ↓ry_fvz, ↓ry_lr0s, ↓ry_lr0z, ↓ry_obu, ↓ry_r1, ↓rs_ob, ↓rs_l2, ↓rs_i3, ↓rs_n3, ↓rs_l4, ↓rs_ob1, ↓rh_ob (ob _ _ _ _ _), rz_set, rz_nol, rz_clr, List.set_cons_zero, List.set_cons_succ, rz_tr, Nat.reduceAdd, Int.reduceAdd, Int.reduceToNat, Int.reduceSub, Int.reduceNeg, Int.cast_ofNat_Int]
  rw [h1.2.2.1.2.1]
  refine hK _ _ _ _ ?_
  refine rz_cS (As := [.int (nI (mv_al m cl))]) (S := []) l_Res_52 (by decide +kernel) rfl (Nat.le_of_ble_eq_true rfl) (Nat.le_refl _) (Nat.le_refl _) (c_Int_bitCount hal) (fun r G' hr => ?_)
  obtain ⟨rfl, hg⟩ := hr
  have hg := hg.symm
  subst hg
  simp only [Option.toList, List.cons_append, List.nil_append]
  generalize hst : hp_cnt (mv_al m cl) = st at *
  refine rz_blk' [(.istore_n 2, 1, 0, 0)] (by decide +kernel) (Nat.le_refl _) (Nat.le_refl _) (fun K R hK hR => ?_)
  simp only [↓rx_istore_n2, ↓rx_nil, ↓ry_i1, ↓rs_ob, ↓rs_l2, ↓rs_i3, ↓rs_n3, ↓rs_l4, ↓rs_ob1, rz_set, rz_nol, rz_clr, List.set_cons_zero, List.set_cons_succ, rz_tr, Nat.reduceAdd, Int.reduceAdd, Int.reduceToNat, Int.reduceSub, Int.reduceNeg, Int.cast_ofNat_Int]
  refine hK _ _ _ _ ?_
  refine rz_blk' [(.aload_n 0, 1, 0, 0), (.iload_n 2, 1, 0, 0), (.iload_n 2, 1, 0, 0), (.imul, 1, 0, 0), (.aload_n 1, 1, 0, 0)] (by decide +kernel) (Nat.le_refl _) (Nat.le_refl _) (fun K R hK hR => ?_)
  simp only [↓rx_aload_n0, ↓rx_aload_n1, ↓rx_iload_n2, ↓rx_imul, ↓rx_nil, ↓ry_i2, ↓ry_li0s, ↓ry_li0z, ↓ry_lr0s, ↓ry_lr0z, ↓rs_ob, ↓rs_l2, ↓rs_i3, ↓rs_n3, ↓rs_l4, ↓rs_ob1, pk_mul, rz_set, rz_nol, rz_clr, List.set_cons_zero, List.set_cons_succ, rz_tr, Nat.reduceAdd, Int.reduceAdd, Int.reduceToNat, Int.reduceSub, Int.reduceNeg, Int.cast_ofNat_Int]
  refine hK _ _ _ _ ?_
  refine rz_cV (As := []) (b := am) (S := [.int (nI (st * st)), .ref a]) l_Res_58 (by decide +kernel) rfl (ob _ _ _ _ _) rfl (Nat.le_of_ble_eq_true rfl) (Nat.le_refl _) (Nat.le_refl _) (i1 _ _ _ _ _) (fun r G' hr => ?_)
  obtain ⟨rfl, hg⟩ := hr
  have hg := hg.symm
  subst hg
  simp only [Option.toList, List.cons_append, List.nil_append]
  refine rz_blk' [(.imul, 1, 0, 0), (.putfield 62, 3, 6, 7)] (by decide +kernel) (Nat.le_refl _) (Nat.le_refl _) (fun K R hK hR => ?_)
  simp only [List.length_cons, List.length_nil, Nat.reduceLT, rf_6_7, ↓rx_imul, ↓rx_nil, ↓rx_putfield, ↓ry_i2, ↓ry_obu, ↓ry_vr, true_and, ↓rs_ob, ↓rs_l2, ↓rs_i3, ↓rs_n3, ↓rs_l4, ↓rs_ob1, pk_mul, rs_u7, rz_set, rz_nol, rz_clr, List.set_cons_zero, List.set_cons_succ, rz_tr, Nat.reduceAdd, Int.reduceAdd, Int.reduceToNat, Int.reduceSub, Int.reduceNeg, Int.cast_ofNat_Int]
  have ebd : st * st * mv_lg m cl (mv_al m cl) = rs_bd m cl := by simp only [rs_bd, hst]
  rw [ebd]
  refine hK _ _ _ _ ?_
  refine rz_blk' [(.aload_n 0, 1, 0, 0), (.iconst 0, 1, 0, 0), (.putfield 65, 3, 6, 8)] (by decide +kernel) (Nat.le_refl _) (Nat.le_refl _) (fun K R hK hR => ?_)
  simp only [List.length_cons, List.length_nil, Nat.reduceLT, rf_6_8, rf_6_8t, rw_c0, ↓rx_aload_n0, ↓rx_iconst, ↓rx_nil, ↓rx_putfield, ↓ry_lr0s, ↓ry_lr0z, ↓ry_obu, ↓ry_vr, true_and, ↓rs_ob, ↓rs_l2, ↓rs_i3, ↓rs_n3, ↓rs_l4, ↓rs_ob1, rs_u8, rf_6_8, rz_set, rz_nol, rz_clr, List.set_cons_zero, List.set_cons_succ, rz_tr, Nat.reduceAdd, Int.reduceAdd, Int.reduceToNat, Int.reduceSub, Int.reduceNeg, Int.cast_ofNat_Int]
  refine hK _ _ _ _ ?_
  refine rz_blk' [(.aload_n 0, 1, 0, 0), (.iconst 0, 1, 0, 0), (.putfield 69, 3, 6, 9)] (by decide +kernel) (Nat.le_refl _) (Nat.le_refl _) (fun K R hK hR => ?_)
  simp only [List.length_cons, List.length_nil, Nat.reduceLT, rf_6_9, rf_6_9t, rw_c0, ↓rx_aload_n0, ↓rx_iconst, ↓rx_nil, ↓rx_putfield, ↓ry_lr0s, ↓ry_lr0z, ↓ry_obu, ↓ry_vr, true_and, ↓rs_ob, ↓rs_l2, ↓rs_i3, ↓rs_n3, ↓rs_l4, ↓rs_ob1, rs_u9, rf_6_9, rz_set, rz_nol, rz_clr, List.set_cons_zero, List.set_cons_succ, rz_tr, Nat.reduceAdd, Int.reduceAdd, Int.reduceToNat, Int.reduceSub, Int.reduceNeg, Int.cast_ofNat_Int]
  refine hK _ _ _ _ ?_
  generalize hI2 : upd (upd (upd I 0 _) 1 _) 2 _ = I2
  have e0 : I2 0 = nI (rs_bd m cl) := by rw [← hI2, pk_un (by decide), pk_un (by decide), pk_us]
  have e1 : I2 1 = rz_b false := by rw [← hI2, pk_un (by decide), pk_us]; rfl
  have e2 : I2 2 = rz_b false := by rw [← hI2, pk_us]; rfl
  have e3 : I2 3 = I 3 := by rw [← hI2, pk_un (by decide), pk_un (by decide), pk_un (by decide)]
  have hr2 : rs_rw I2 A J S.1 := ⟨by rw [e3]; exact s1.1, s1.2⟩
  refine rz_blk' [(.aload_n 0, 1, 0, 0), (.getfield 14, 3, 6, 0)] (by decide +kernel) (Nat.le_refl _) (Nat.le_refl _) (fun K R hK hR => ?_)
  simp only [↓rx_aload_n0, ↓rx_getfield, ↓rx_nil, ↓ry_fvs, ↓ry_fvz, ↓ry_lr0s, ↓ry_lr0z, ↓ry_obu, ↓ry_r1, ↓rs_ob, ↓rs_l2, ↓rs_i3, ↓rs_n3, ↓rs_l4, ↓rs_ob1, rz_set, rz_nol, rz_clr, List.set_cons_zero, List.set_cons_succ, rz_tr, Nat.reduceAdd, Int.reduceAdd, Int.reduceToNat, Int.reduceSub, Int.reduceNeg, Int.cast_ofNat_Int]
  refine hK _ _ _ _ ?_
  refine rz_cV (As := []) (b := a + 1) (S := []) l_Res_72 (by decide +kernel) rfl (rs_at (o := 1) (by decide)) rfl (Nat.le_of_ble_eq_true rfl) (Nat.le_refl _) (Nat.le_refl _) (c_Rows_clear (rs_rw_is hr2)) (fun r G' hr => ?_)
  obtain ⟨rfl, hrw, hfr⟩ := hr
  simp only [Option.toList, List.nil_append]
  obtain ⟨A3, J3, hg, hr3⟩ := rs_rw_put (ps := []) (fun v hv => by simp at hv) hrw hfr
  subst hg
  generalize hI3 : upd I2 3 _ = I3 at hr3
  have f0 : I3 0 = nI (rs_bd m cl) := by rw [← hI3, pk_un (by decide), e0]
  have f1 : I3 1 = rz_b false := by rw [← hI3, pk_un (by decide), e1]
  have f2 : I3 2 = rz_b false := by rw [← hI3, pk_un (by decide), e2]
  have hgo : ∀ (I4 : Nat → Int32) (A4 : Nat → Nat → Int32) (J4 : Nat → Nat → Int64) (X4 : Nat → List Nat), rs_st I4 A4 J4 (rs_bd m cl) (rs_s0 m cl) → rs_xo X4 → rz_T w (d + 6) 0 0 m_Res_verdictOn 0 0 66 [some (.ref a), some (.ref am), some (.int (nI st)), none, none, none, none] [] (rs_put G a I4 A4 J4 X4 (va_up P 0 am)) (fun r G' => r = some (.int (nI (rs_ver m cl))) ∧ ∃ I' A' J' X' S', G' = rs_put G a I' A' J' X' (va_up P 0 am) ∧ rs_xo X' ∧ rs_st I' A' J' (rs_bd m cl) S') := by
    intro I4 A4 J4 X4 hS4 hX4
    refine rz_blk' [(.iconst 0, 1, 0, 0), (.istore_n 3, 1, 0, 0)] (by decide +kernel) (Nat.le_refl _) (Nat.le_refl _) (fun K R hK hR => ?_)
    simp only [rw_c0, ↓rx_iconst, ↓rx_istore_n3, ↓rx_nil, ↓ry_i1, ↓rs_ob, ↓rs_l2, ↓rs_i3, ↓rs_n3, ↓rs_l4, ↓rs_ob1, rz_set, rz_nol, rz_clr, List.set_cons_zero, List.set_cons_succ, rz_tr, Nat.reduceAdd, Int.reduceAdd, Int.reduceToNat, Int.reduceSub, Int.reduceNeg, Int.cast_ofNat_Int]
    refine hK _ _ _ _ ?_
    refine rz_blk' [(.iconst 0, 1, 0, 0), (.istore 4, 2, 0, 0)] (by decide +kernel) (Nat.le_refl _) (Nat.le_refl _) (fun K R hK hR => ?_)
    simp only [rw_c0, ↓rx_iconst, ↓rx_istore, ↓rx_nil, ↓ry_i1, ↓rs_ob, ↓rs_l2, ↓rs_i3, ↓rs_n3, ↓rs_l4, ↓rs_ob1, rz_set, rz_nol, rz_clr, List.set_cons_zero, List.set_cons_succ, rz_tr, Nat.reduceAdd, Int.reduceAdd, Int.reduceToNat, Int.reduceSub, Int.reduceNeg, Int.cast_ofNat_Int]
    refine hK _ _ _ _ (rs_ve_o h1' h3 hb 3001 0 0 (rs_s0 m cl) I4 A4 J4 X4 none none rfl (Nat.zero_le _) hS4 hX4 (fun I5 A5 J5 X5 hX5 hS5 => ?_))
    obtain ⟨S5, hS5⟩ := hS5
    exact ⟨rfl, I5, A5, J5, X5, S5, rfl, hX5, hS5⟩
  refine rz_blk' [(.iload_n 2, 1, 0, 0), (.ifCond .le 23, 3, 0, 0), (.aload_n 0, 1, 0, 0), (.getfield 36, 3, 6, 4)] (by decide +kernel) (Nat.le_refl _) (Nat.le_refl _) (fun K R hK hR => ?_)
  simp only [↓rx_aload_n0, ↓rx_getfield, ↓rx_ifCond_le, ↓rx_iload_n2, ↓rx_nil, ↓ry_fvs, ↓ry_fvz, ↓ry_i1, ↓ry_li0s, ↓ry_li0z, ↓ry_lr0s, ↓ry_lr0z, ↓ry_obu, ↓ry_r1, ↓rs_ob, ↓rs_l2, ↓rs_i3, ↓rs_n3, ↓rs_l4, ↓rs_ob1, rz_set, rz_nol, rz_clr, List.set_cons_zero, List.set_cons_succ, rz_tr, Nat.reduceAdd, Int.reduceAdd, Int.reduceToNat, Int.reduceSub, Int.reduceNeg, Int.cast_ofNat_Int]
  rw [hp_z, nI_leI (by omega) (by omega)]
  refine ⟨fun q => hK _ _ _ _ (hgo _ _ _ _ ?_ hX), fun q => hK _ _ _ _ ?_⟩
  · have : rs_s0 m cl = ([], false, false) := by simp only [rs_s0, hst]; rw [if_neg (by omega)]
    rw [this]
    exact ⟨hr3, f0, f1, f2⟩
  refine rz_cV (As := []) (b := a + 9) (S := []) l_Res_75 (by decide +kernel) rfl (rs_wi9 (hX 2 (by decide))).1 rfl (Nat.le_of_ble_eq_true rfl) (Nat.le_refl _) (Nat.le_refl _) (c_Word_clear (rs_wi9 (hX 2 (by decide)))) (fun r G' hr => ?_)
  obtain ⟨rfl, rfl⟩ := hr
  rw [rs_wp9]
  simp only [Option.toList, List.nil_append]
  have o3 : wd_ok 8 (va_up X 2 [] 3) := by rw [va_up_ne _ _ (by decide)]; exact hX 3 (by decide)
  refine rz_blk' [(.aload_n 0, 1, 0, 0), (.getfield 39, 3, 6, 5)] (by decide +kernel) (Nat.le_refl _) (Nat.le_refl _) (fun K R hK hR => ?_)
  simp only [↓rx_aload_n0, ↓rx_getfield, ↓rx_nil, ↓ry_fvs, ↓ry_fvz, ↓ry_lr0s, ↓ry_lr0z, ↓ry_obu, ↓ry_r1, ↓rs_ob, ↓rs_l2, ↓rs_i3, ↓rs_n3, ↓rs_l4, ↓rs_ob1, rz_set, rz_nol, rz_clr, List.set_cons_zero, List.set_cons_succ, rz_tr, Nat.reduceAdd, Int.reduceAdd, Int.reduceToNat, Int.reduceSub, Int.reduceNeg, Int.cast_ofNat_Int]
  refine hK _ _ _ _ ?_
  refine rz_cV (As := []) (b := a + 11) (S := []) l_Res_75 (by decide +kernel) rfl (rs_wi11 o3).1 rfl (Nat.le_of_ble_eq_true rfl) (Nat.le_refl _) (Nat.le_refl _) (c_Word_clear (rs_wi11 o3)) (fun r G' hr => ?_)
  obtain ⟨rfl, rfl⟩ := hr
  rw [rs_wp11]
  simp only [Option.toList, List.nil_append]
  generalize hX5 : va_up (va_up X 2 []) 3 [] = X5
  have y2 : X5 2 = [] := by rw [← hX5, va_up_ne _ _ (by decide), va_up_self]
  have y3 : X5 3 = [] := by rw [← hX5, va_up_self]
  have hX5o : rs_xo X5 := by
    intro j hj
    by_cases c3 : j = 3
    · rw [c3, y3]; exact wd_ok_nil (by decide)
    · by_cases c2 : j = 2
      · rw [c2, y2]; exact wd_ok_nil (by decide)
      · rw [← hX5, va_up_ne _ _ c3, va_up_ne _ _ c2]; exact hX j hj
  refine rz_blk' [(.aload_n 0, 1, 0, 0), (.iconst 0, 1, 0, 0), (.iconst 0, 1, 0, 0)] (by decide +kernel) (Nat.le_refl _) (Nat.le_refl _) (fun K R hK hR => ?_)
  simp only [rw_c0, ↓rx_aload_n0, ↓rx_iconst, ↓rx_nil, ↓ry_lr0s, ↓ry_lr0z, ↓rs_ob, ↓rs_l2, ↓rs_i3, ↓rs_n3, ↓rs_l4, ↓rs_ob1, rz_set, rz_nol, rz_clr, List.set_cons_zero, List.set_cons_succ, rz_tr, Nat.reduceAdd, Int.reduceAdd, Int.reduceToNat, Int.reduceSub, Int.reduceNeg, Int.cast_ofNat_Int]
  refine hK _ _ _ _ ?_
  refine rz_cV (As := [.int (nI 0), .int (nI 0)]) (b := a) (S := []) l_Res_76 (by decide +kernel) rfl rs_at0 rfl (Nat.le_of_ble_eq_true rfl) (Nat.le_refl _) (Nat.le_refl _) (c_Res_keep (tm := false) hr3 (hX5o 2 (by decide)) (hX5o 3 (by decide)) ⟨(by decide : 0 < 6), (by decide : 0 < 6), by rw [y2]; simp, by rw [y3]; simp, by rw [y2]; simp, by rw [y3]; simp⟩) (fun r G' hr => ?_)
  obtain ⟨rfl, I', A', J', rfl, g1, g2, g3, g4⟩ := hr
  simp only [Option.toList, List.nil_append]
  rw [y2, y3] at g1 g4
  refine hgo I' A' J' X5 ?_ hX5o
  have : rs_s0 m cl = ([(0, 0, [], [])], false, false) := by simp only [rs_s0, hst]; rw [if_pos (by omega)]
  rw [this]
  exact ⟨g1, g2.trans f0, g3.trans f1, g4⟩

