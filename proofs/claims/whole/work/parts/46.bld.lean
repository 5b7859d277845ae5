/-! WriterDesk$Builder: cutLead -/
def bc_lk (T : bf_T) : Nat → Nat → Option (List Nat) → Option (List Nat)
  | 0, _, acc => acc
  | k + 1, q, acc => bc_lk T k (q + 1) (if T.1.testBit q then bh_mg acc (T.2 q) else acc)
def bc_ld (T : bf_T) : Option (List Nat) := bc_lk T 6 0 none
def bc_dr (L : Nat) (T : bf_T) : bf_T := (T.1, fun q => if q < 6 ∧ T.1.testBit q = true then (T.2 q).drop L else T.2 q)
/-- the lead is written, the rests are cut -/
def bc_ct (T : bf_T) : bf_T := match bc_ld T with
  | none => T
  | some h => bc_dr h.length T
theorem bc_lk_acc {T : bf_T} : ∀ (k q : Nat) (h g : List Nat), bc_lk T k q (some h) = some g → g.length ≤ h.length := by
  intro k
  induction k with
  | zero => intro q h g e; cases e; exact Nat.le_refl _
  | succ k ih =>
    intro q h g e
    simp only [bc_lk] at e
    split at e
    · have := ih _ _ _ e
      rw [List.length_take] at this; omega
    · exact ih _ _ _ e
theorem bc_lk_le {T : bf_T} : ∀ (k q : Nat) (acc : Option (List Nat)) (g : List Nat), bc_lk T k q acc = some g → ∀ p, q ≤ p → p < q + k → T.1.testBit p = true → g.length ≤ (T.2 p).length := by
  intro k
  induction k with
  | zero => intro q acc g e p h1 h2; omega
  | succ k ih =>
    intro q acc g e p h1 h2 h3
    simp only [bc_lk] at e
    by_cases c : p = q
    · subst c
      rw [if_pos h3] at e
      cases acc with
      | none => exact bc_lk_acc _ _ _ _ e
      | some h =>
        have := bc_lk_acc _ _ _ _ e
        have := wd_lcp_le h (T.2 p)
        rw [List.length_take] at *; omega
    · exact ih _ _ _ e p (by omega) (by omega) h3
theorem bc_lk_some {T : bf_T} : ∀ (k q : Nat) (h : List Nat), ∃ g, bc_lk T k q (some h) = some g := by
  intro k
  induction k with
  | zero => intro q h; exact ⟨h, rfl⟩
  | succ k ih =>
    intro q h
    simp only [bc_lk]
    split
    · exact ih _ _
    · exact ih _ _
theorem bc_lk_none {T : bf_T} : ∀ (k q : Nat) (acc : Option (List Nat)), bc_lk T k q acc = none → acc = none ∧ ∀ p, q ≤ p → p < q + k → T.1.testBit p = false := by
  intro k
  induction k with
  | zero => intro q acc e; exact ⟨e, fun p h1 h2 => by omega⟩
  | succ k ih =>
    intro q acc e
    simp only [bc_lk] at e
    obtain ⟨e1, e2⟩ := ih _ _ e
    by_cases c : T.1.testBit q = true
    · rw [if_pos c] at e1
      cases acc <;> cases e1
    · rw [if_neg c] at e1
      refine ⟨e1, fun p h1 h2 => ?_⟩
      by_cases cp : p = q
      · subst cp; simpa using c
      · exact e2 p (by omega) (by omega)
section BCL
variable {w : rz_w} {d : Nat} {G : rz_G} {a : Nat} {I : Nat → Int32} {A : Nat → Nat → Int32} {J : Nat → Nat → Int64} {P : Nat → Nat} {Im : Nat → Int32} {Am : Nat → Nat → Int32} {Jm : Nat → Nat → Int64} {Xm : Nat → List Nat} {Pm : Nat → Nat} {T : bf_T} {Q : Option Value → rz_G → Prop}
set_option maxRecDepth 100000 in
set_option maxHeartbeats 4000000 in
theorem bc_1 : ∀ (k q : Nat) (acc : Option (List Nat)) (X : Nat → List Nat), q + k = 6 → bf_st I X T → (∀ h, acc = some h → X 2 = h) →
      (∀ X' z2, bf_st I X' T → (∀ j, j ≠ 2 → X' j = X j) → (∀ h, bc_lk T k q acc = some h → X' 2 = h) → rz_T w (d + 1) 0 0 m_Bld_cutLead 0 0 80 [some (.ref a), some (.int (rz_b (bc_lk T k q acc).isSome)), z2] [] (mc_put (bo_put G a I A J X' P) (a + 1) Im Am Jm Xm Pm) Q) →
      rz_T w (d + 1) 0 0 m_Bld_cutLead 0 0 4 [some (.ref a), some (.int (rz_b acc.isSome)), some (.int (nI q))] [] (mc_put (bo_put G a I A J X P) (a + 1) Im Am Jm Xm Pm) Q := by
  intro k
  induction k with
  | zero =>
    intro q acc X hk hS ha hc
    refine rz_blk' [(.iload_n 2, 1, 0, 0), (.bipush 6, 2, 0, 0), (.if_icmp .ge 73, 3, 0, 0)] (by decide +kernel) (Nat.le_refl _) (Nat.le_refl _) (fun K R hK hR => ?_)
    simp only [rw_b6, ↓rx_bipush, ↓rx_if_icmp_ge, ↓rx_iload_n2, ↓rx_nil, ↓ry_i2, ↓ry_li0s, ↓ry_li0z, ↓bl_ob, ↓bl_r71, ↓bl_i76, ↓bl_i77, ↓bl_i78, ↓bl_i79, ↓bl_r80, ↓bl_r81, ↓mc_ob, ↓mc_i1, ↓mc_n1, ↓mc_i2, ↓mc_n2, ↓mc_i3, ↓mc_n3, ↓mc_r4, ↓mc_r7, ↓mc_i8, ↓mc_n8, ↓mc_i9, ↓mc_n9, rz_set, rz_nol, rz_clr, List.set_cons_zero, List.set_cons_succ, rz_tr, Nat.reduceAdd, Int.reduceAdd, Int.reduceToNat, Int.reduceSub, Int.reduceNeg, Int.cast_ofNat_Int]
    rw [nI_leI (by omega) (by omega)]
    exact ⟨fun c => hK _ _ _ _ (hc X _ hS (fun _ _ => rfl) ha), fun c => by omega⟩
  | succ k ih =>
    intro q acc X hk hS ha hc
    obtain ⟨s0, s1, s2, s3⟩ := id hS
    simp only [bc_lk] at hc
    have wn := bl_wiN (G := G) (a := a) (I := I) (A := A) (J := J) (X := X) (P := P) (Im := Im) (Am := Am) (Jm := Jm) (Xm := Xm) (Pm := Pm) (q := q) (by omega) (s3.2.2.2.1 q (by omega))
    rw [s2 q (by omega)] at wn
    have wl := bl_wi82 (G := G) (a := a) (I := I) (A := A) (J := J) (X := X) (P := P) (Im := Im) (Am := Am) (Jm := Jm) (Xm := Xm) (Pm := Pm) s3.2.2.1
    refine rz_blk' [(.iload_n 2, 1, 0, 0), (.bipush 6, 2, 0, 0), (.if_icmp .ge 73, 3, 0, 0), (.aload_n 0, 1, 0, 0), (.getfield 90, 3, 8, 10), (.iload_n 2, 1, 0, 0)] (by decide +kernel) (Nat.le_refl _) (Nat.le_refl _) (fun K R hK hR => ?_)
    simp only [rw_b6, ↓rx_aload_n0, ↓rx_bipush, ↓rx_getfield, ↓rx_if_icmp_ge, ↓rx_iload_n2, ↓rx_nil, ↓ry_fvs, ↓ry_fvz, ↓ry_i2, ↓ry_li0s, ↓ry_li0z, ↓ry_lr0s, ↓ry_lr0z, ↓ry_obu, ↓ry_r1, ↓bl_ob, ↓bl_r71, ↓bl_i76, ↓bl_i77, ↓bl_i78, ↓bl_i79, ↓bl_r80, ↓bl_r81, ↓mc_ob, ↓mc_i1, ↓mc_n1, ↓mc_i2, ↓mc_n2, ↓mc_i3, ↓mc_n3, ↓mc_r4, ↓mc_r7, ↓mc_i8, ↓mc_n8, ↓mc_i9, ↓mc_n9, s0, rz_set, rz_nol, rz_clr, List.set_cons_zero, List.set_cons_succ, rz_tr, Nat.reduceAdd, Int.reduceAdd, Int.reduceToNat, Int.reduceSub, Int.reduceNeg, Int.cast_ofNat_Int]
    rw [nI_leI (by omega) (by omega)]
    refine ⟨fun c => by omega, fun c => hK _ _ _ _ ?_⟩
    refine rz_cN (As := [.int (nI T.1), .int (nI q)]) (S := []) l_Bld_119 (by decide +kernel) rfl (Nat.le_of_ble_eq_true rfl) (Nat.le_refl _) (Nat.le_refl _) (c_Desk_has (by omega) (by omega)) (fun r G' hr => ?_)
    obtain ⟨rfl, hg⟩ := hr
    have hg := hg.symm
    subst hg
    simp only [Option.toList, List.cons_append, List.nil_append]
    have hnext : ∀ (acc2 : Option (List Nat)) X2, acc2 = (if T.1.testBit q then bh_mg acc (T.2 q) else acc) → bf_st I X2 T → (∀ j, j ≠ 2 → X2 j = X j) → (∀ h, acc2 = some h → X2 2 = h) → rz_T w (d + 1) 0 0 m_Bld_cutLead 0 0 74 [some (.ref a), some (.int (rz_b acc2.isSome)), some (.int (nI q))] [] (mc_put (bo_put G a I A J X2 P) (a + 1) Im Am Jm Xm Pm) Q := by
      intro acc2 X2 e1 e2 e3 e4
      refine rz_blk' [(.iinc 2 1, 3, 0, 0), (.goto (-73), 3, 0, 0)] (by decide +kernel) (Nat.le_refl _) (Nat.le_refl _) (fun K R hK hR => ?_)
      simp only [rw_c1, ↓rx_goto, ↓rx_iinc, ↓rx_nil, ↓ry_li0s, ↓ry_li0z, ↓bl_ob, ↓bl_r71, ↓bl_i76, ↓bl_i77, ↓bl_i78, ↓bl_i79, ↓bl_r80, ↓bl_r81, ↓mc_ob, ↓mc_i1, ↓mc_n1, ↓mc_i2, ↓mc_n2, ↓mc_i3, ↓mc_n3, ↓mc_r4, ↓mc_r7, ↓mc_i8, ↓mc_n8, ↓mc_i9, ↓mc_n9, nI_add, rz_set, rz_nol, rz_clr, List.set_cons_zero, List.set_cons_succ, rz_tr, Nat.reduceAdd, Int.reduceAdd, Int.reduceToNat, Int.reduceSub, Int.reduceNeg, Int.cast_ofNat_Int]
      rw [← e1] at hc
      exact hK _ _ _ _ (ih (q + 1) acc2 X2 (by omega) e2 e4 (fun X' z2 t1 t2 t3 => hc X' z2 t1 (fun j hj => (t2 j hj).trans (e3 j hj)) t3))
    have hput : ∀ xs, wd_ok 11 xs → bf_st I (va_up X 2 xs) T := fun xs hx => ⟨s0, s1, fun q' hq' => by rw [va_up_ne _ _ (by omega)]; exact s2 q' hq', bl_xo_up s3 (Or.inr ⟨Or.inl rfl, hx⟩)⟩
    by_cases ck : T.1.testBit q = true
    · rw [if_pos ck]
      rw [if_pos ck] at hnext
      cases hacc : acc with
      | some h =>
        refine rz_blk' [(.ifCond .eq 30, 3, 0, 0), (.iload_n 1, 1, 0, 0), (.ifCond .eq 26, 3, 0, 0), (.aload_n 0, 1, 0, 0), (.getfield 53, 3, 8, 12), (.aload_n 0, 1, 0, 0), (.getfield 53, 3, 8, 12), (.aload_n 0, 1, 0, 0), (.getfield 50, 3, 8, 11), (.iload_n 2, 1, 0, 0), (.aaload, 1, 0, 0)] (by decide +kernel) (Nat.le_refl _) (Nat.le_refl _) (fun K R hK hR => ?_)
        simp only [Nat.reduceEqDiff, false_or, or_false, or_true, reduceIte, ↓rx_aaload, ↓rx_aload_n0, ↓rx_getfield, ↓rx_ifCond_eq, ↓rx_iload_n1, ↓rx_iload_n2, ↓rx_nil, ↓ry_fvs, ↓ry_fvz, ↓ry_i1, ↓ry_li0s, ↓ry_li0z, ↓ry_lr0s, ↓ry_lr0z, ↓ry_obu, ↓ry_r1, ↓ry_ri, true_and, true_or, ↓bl_ob, ↓bl_r71, ↓bl_i76, ↓bl_i77, ↓bl_i78, ↓bl_i79, ↓bl_r80, ↓bl_r81, ↓mc_ob, ↓mc_i1, ↓mc_n1, ↓mc_i2, ↓mc_n2, ↓mc_i3, ↓mc_n3, ↓mc_r4, ↓mc_r7, ↓mc_i8, ↓mc_n8, ↓mc_i9, ↓mc_n9, va_rfs, rz_set, rz_nol, rz_clr, List.set_cons_zero, List.set_cons_succ, rz_tr, Nat.reduceAdd, Int.reduceAdd, Int.reduceToNat, Int.reduceSub, Int.reduceNeg, Int.cast_ofNat_Int]
        rw [nI_clamp (by omega)]
        refine ⟨fun z => absurd z (by decide), fun _ => ⟨fun z => absurd z (show ¬ rz_b true = 0 by decide), fun _ => ⟨vp_in_nI (by omega) (by decide), hK _ _ _ _ ?_⟩⟩⟩
        have hx2 := ha h hacc
        rw [hx2] at wl
        refine rz_cV (As := [.ref (a + (86 + 4 * q))]) (b := a + 82) (S := [.ref (a + 82)]) l_Bld_147 (by decide +kernel) rfl wl.1 rfl (Nat.le_of_ble_eq_true rfl) (Nat.le_refl _) (Nat.le_refl _) (c_Word_alikeWith wl wn) (fun r G' hr => ?_)
        obtain ⟨rfl, hg⟩ := hr
        have hg := hg.symm
        subst hg
        simp only [Option.toList, List.cons_append, List.nil_append]
        have hl := wd_lcp_le h (T.2 q)
        have hl2 := wl.2.2.1
        refine rz_cV (As := [.int (nI (wd_lcp h (T.2 q)))]) (b := a + 82) (S := []) l_Bld_151 (by decide +kernel) rfl wl.1 rfl (Nat.le_of_ble_eq_true rfl) (Nat.le_refl _) (Nat.le_refl _) (c_Word_keepFirst (by omega) wl) (fun r G' hr => ?_)
        obtain ⟨rfl, rfl⟩ := hr
        rw [bl_wp82]
        simp only [Option.toList, List.nil_append]
        have okt : wd_ok 11 (h.take (wd_lcp h (T.2 q))) := ⟨by rw [List.length_take]; omega, fun x hx => wl.2.2.2.1 x (List.mem_of_mem_take hx), by decide⟩
        refine rz_blk' [(.goto 29, 3, 0, 0)] (by decide +kernel) (Nat.le_refl _) (Nat.le_refl _) (fun K R hK hR => ?_)
        simp only [↓rx_goto, ↓rx_nil, ↓bl_ob, ↓bl_r71, ↓bl_i76, ↓bl_i77, ↓bl_i78, ↓bl_i79, ↓bl_r80, ↓bl_r81, ↓mc_ob, ↓mc_i1, ↓mc_n1, ↓mc_i2, ↓mc_n2, ↓mc_i3, ↓mc_n3, ↓mc_r4, ↓mc_r7, ↓mc_i8, ↓mc_n8, ↓mc_i9, ↓mc_n9, rz_set, rz_nol, rz_clr, List.set_cons_zero, List.set_cons_succ, rz_tr, Nat.reduceAdd, Int.reduceAdd, Int.reduceToNat, Int.reduceSub, Int.reduceNeg, Int.cast_ofNat_Int]
        exact hK _ _ _ _ (hnext (some (h.take (wd_lcp h (T.2 q)))) _ (by rw [hacc]; rfl) (hput _ okt) (fun j hj => va_up_ne _ _ hj) (fun h' e => by cases e; exact va_up_self ..))
      | none =>
        refine rz_blk' [(.ifCond .eq 30, 3, 0, 0), (.iload_n 1, 1, 0, 0), (.ifCond .eq 26, 3, 0, 0)] (by decide +kernel) (Nat.le_refl _) (Nat.le_refl _) (fun K R hK hR => ?_)
        simp only [↓rx_ifCond_eq, ↓rx_iload_n1, ↓rx_nil, ↓ry_i1, ↓ry_li0s, ↓ry_li0z, ↓bl_ob, ↓bl_r71, ↓bl_i76, ↓bl_i77, ↓bl_i78, ↓bl_i79, ↓bl_r80, ↓bl_r81, ↓mc_ob, ↓mc_i1, ↓mc_n1, ↓mc_i2, ↓mc_n2, ↓mc_i3, ↓mc_n3, ↓mc_r4, ↓mc_r7, ↓mc_i8, ↓mc_n8, ↓mc_i9, ↓mc_n9, rz_set, rz_nol, rz_clr, List.set_cons_zero, List.set_cons_succ, rz_tr, Nat.reduceAdd, Int.reduceAdd, Int.reduceToNat, Int.reduceSub, Int.reduceNeg, Int.cast_ofNat_Int]
        refine ⟨fun z => absurd z (by decide), fun _ => ⟨fun _ => hK _ _ _ _ ?_, fun z => absurd rfl z⟩⟩
        refine rz_blk' [(.aload_n 0, 1, 0, 0), (.getfield 90, 3, 8, 10), (.iload_n 2, 1, 0, 0)] (by decide +kernel) (Nat.le_refl _) (Nat.le_refl _) (fun K R hK hR => ?_)
        simp only [↓rx_aload_n0, ↓rx_getfield, ↓rx_iload_n2, ↓rx_nil, ↓ry_fvs, ↓ry_fvz, ↓ry_li0s, ↓ry_li0z, ↓ry_lr0s, ↓ry_lr0z, ↓ry_obu, ↓ry_r1, ↓bl_ob, ↓bl_r71, ↓bl_i76, ↓bl_i77, ↓bl_i78, ↓bl_i79, ↓bl_r80, ↓bl_r81, ↓mc_ob, ↓mc_i1, ↓mc_n1, ↓mc_i2, ↓mc_n2, ↓mc_i3, ↓mc_n3, ↓mc_r4, ↓mc_r7, ↓mc_i8, ↓mc_n8, ↓mc_i9, ↓mc_n9, s0, rz_set, rz_nol, rz_clr, List.set_cons_zero, List.set_cons_succ, rz_tr, Nat.reduceAdd, Int.reduceAdd, Int.reduceToNat, Int.reduceSub, Int.reduceNeg, Int.cast_ofNat_Int]
        refine hK _ _ _ _ ?_
        refine rz_cN (As := [.int (nI T.1), .int (nI q)]) (S := []) l_Bld_119 (by decide +kernel) rfl (Nat.le_of_ble_eq_true rfl) (Nat.le_refl _) (Nat.le_refl _) (c_Desk_has (by omega) (by omega)) (fun r G' hr => ?_)
        obtain ⟨rfl, hg⟩ := hr
        have hg := hg.symm
        subst hg
        simp only [Option.toList, List.cons_append, List.nil_append]
        rw [if_pos ck]
        refine rz_blk' [(.ifCond .eq 18, 3, 0, 0), (.aload_n 0, 1, 0, 0), (.getfield 53, 3, 8, 12), (.aload_n 0, 1, 0, 0), (.getfield 50, 3, 8, 11), (.iload_n 2, 1, 0, 0), (.aaload, 1, 0, 0)] (by decide +kernel) (Nat.le_refl _) (Nat.le_refl _) (fun K R hK hR => ?_)
        simp only [Nat.reduceEqDiff, false_or, or_false, or_true, reduceIte, ↓rx_aaload, ↓rx_aload_n0, ↓rx_getfield, ↓rx_ifCond_eq, ↓rx_iload_n2, ↓rx_nil, ↓ry_fvs, ↓ry_fvz, ↓ry_i1, ↓ry_li0s, ↓ry_li0z, ↓ry_lr0s, ↓ry_lr0z, ↓ry_obu, ↓ry_r1, ↓ry_ri, true_and, true_or, ↓bl_ob, ↓bl_r71, ↓bl_i76, ↓bl_i77, ↓bl_i78, ↓bl_i79, ↓bl_r80, ↓bl_r81, ↓mc_ob, ↓mc_i1, ↓mc_n1, ↓mc_i2, ↓mc_n2, ↓mc_i3, ↓mc_n3, ↓mc_r4, ↓mc_r7, ↓mc_i8, ↓mc_n8, ↓mc_i9, ↓mc_n9, va_rfs, rz_set, rz_nol, rz_clr, List.set_cons_zero, List.set_cons_succ, rz_tr, Nat.reduceAdd, Int.reduceAdd, Int.reduceToNat, Int.reduceSub, Int.reduceNeg, Int.cast_ofNat_Int]
        rw [nI_clamp (by omega)]
        refine ⟨fun z => absurd z (by decide), fun _ => ⟨vp_in_nI (by omega) (by decide), hK _ _ _ _ ?_⟩⟩
        refine rz_cV (As := [.ref (a + (86 + 4 * q))]) (b := a + 82) (S := []) l_Bld_86 (by decide +kernel) rfl wl.1 rfl (Nat.le_of_ble_eq_true rfl) (Nat.le_refl _) (Nat.le_refl _) (c_Word_copy wl wn (by omega)) (fun r G' hr => ?_)
        obtain ⟨rfl, rfl⟩ := hr
        rw [bl_wp82, if_pos (by have := wn.2.2.1; omega)]
        simp only [Option.toList, List.nil_append]
        refine rz_blk' [(.iconst 1, 1, 0, 0), (.istore_n 1, 1, 0, 0)] (by decide +kernel) (Nat.le_refl _) (Nat.le_refl _) (fun K R hK hR => ?_)
        simp only [rw_c1, ↓rx_iconst, ↓rx_istore_n1, ↓rx_nil, ↓ry_i1, ↓bl_ob, ↓bl_r71, ↓bl_i76, ↓bl_i77, ↓bl_i78, ↓bl_i79, ↓bl_r80, ↓bl_r81, ↓mc_ob, ↓mc_i1, ↓mc_n1, ↓mc_i2, ↓mc_n2, ↓mc_i3, ↓mc_n3, ↓mc_r4, ↓mc_r7, ↓mc_i8, ↓mc_n8, ↓mc_i9, ↓mc_n9, rz_set, rz_nol, rz_clr, List.set_cons_zero, List.set_cons_succ, rz_tr, Nat.reduceAdd, Int.reduceAdd, Int.reduceToNat, Int.reduceSub, Int.reduceNeg, Int.cast_ofNat_Int]
        exact hK _ _ _ _ (hnext (some (T.2 q)) _ (by rw [hacc]; rfl) (hput _ wn.2.2) (fun j hj => va_up_ne _ _ hj) (fun h' e => by cases e; exact va_up_self ..))
    · rw [if_neg ck]
      rw [if_neg ck] at hnext
      refine rz_blk' [(.ifCond .eq 30, 3, 0, 0)] (by decide +kernel) (Nat.le_refl _) (Nat.le_refl _) (fun K R hK hR => ?_)
      simp only [↓rx_ifCond_eq, ↓rx_nil, ↓ry_i1, ↓bl_ob, ↓bl_r71, ↓bl_i76, ↓bl_i77, ↓bl_i78, ↓bl_i79, ↓bl_r80, ↓bl_r81, ↓mc_ob, ↓mc_i1, ↓mc_n1, ↓mc_i2, ↓mc_n2, ↓mc_i3, ↓mc_n3, ↓mc_r4, ↓mc_r7, ↓mc_i8, ↓mc_n8, ↓mc_i9, ↓mc_n9, rz_set, rz_nol, rz_clr, List.set_cons_zero, List.set_cons_succ, rz_tr, Nat.reduceAdd, Int.reduceAdd, Int.reduceToNat, Int.reduceSub, Int.reduceNeg, Int.cast_ofNat_Int]
      refine ⟨fun _ => hK _ _ _ _ ?_, fun z => absurd trivial z⟩
      refine rz_blk' [(.aload_n 0, 1, 0, 0), (.getfield 90, 3, 8, 10), (.iload_n 2, 1, 0, 0)] (by decide +kernel) (Nat.le_refl _) (Nat.le_refl _) (fun K R hK hR => ?_)
      simp only [↓rx_aload_n0, ↓rx_getfield, ↓rx_iload_n2, ↓rx_nil, ↓ry_fvs, ↓ry_fvz, ↓ry_li0s, ↓ry_li0z, ↓ry_lr0s, ↓ry_lr0z, ↓ry_obu, ↓ry_r1, ↓bl_ob, ↓bl_r71, ↓bl_i76, ↓bl_i77, ↓bl_i78, ↓bl_i79, ↓bl_r80, ↓bl_r81, ↓mc_ob, ↓mc_i1, ↓mc_n1, ↓mc_i2, ↓mc_n2, ↓mc_i3, ↓mc_n3, ↓mc_r4, ↓mc_r7, ↓mc_i8, ↓mc_n8, ↓mc_i9, ↓mc_n9, s0, rz_set, rz_nol, rz_clr, List.set_cons_zero, List.set_cons_succ, rz_tr, Nat.reduceAdd, Int.reduceAdd, Int.reduceToNat, Int.reduceSub, Int.reduceNeg, Int.cast_ofNat_Int]
      refine hK _ _ _ _ ?_
      refine rz_cN (As := [.int (nI T.1), .int (nI q)]) (S := []) l_Bld_119 (by decide +kernel) rfl (Nat.le_of_ble_eq_true rfl) (Nat.le_refl _) (Nat.le_refl _) (c_Desk_has (by omega) (by omega)) (fun r G' hr => ?_)
      obtain ⟨rfl, hg⟩ := hr
      have hg := hg.symm
      subst hg
      simp only [Option.toList, List.cons_append, List.nil_append]
      rw [if_neg ck]
      refine rz_blk' [(.ifCond .eq 18, 3, 0, 0)] (by decide +kernel) (Nat.le_refl _) (Nat.le_refl _) (fun K R hK hR => ?_)
      simp only [↓rx_ifCond_eq, ↓rx_nil, ↓ry_i1, ↓bl_ob, ↓bl_r71, ↓bl_i76, ↓bl_i77, ↓bl_i78, ↓bl_i79, ↓bl_r80, ↓bl_r81, ↓mc_ob, ↓mc_i1, ↓mc_n1, ↓mc_i2, ↓mc_n2, ↓mc_i3, ↓mc_n3, ↓mc_r4, ↓mc_r7, ↓mc_i8, ↓mc_n8, ↓mc_i9, ↓mc_n9, rz_set, rz_nol, rz_clr, List.set_cons_zero, List.set_cons_succ, rz_tr, Nat.reduceAdd, Int.reduceAdd, Int.reduceToNat, Int.reduceSub, Int.reduceNeg, Int.cast_ofNat_Int]
      exact ⟨fun _ => hK _ _ _ _ (hnext acc X rfl hS (fun _ _ => rfl) ha), fun z => absurd trivial z⟩

set_option maxRecDepth 100000 in
set_option maxHeartbeats 4000000 in
theorem bc_2 {h : List Nat} (hle : ∀ p, p < 6 → T.1.testBit p = true → h.length ≤ (T.2 p).length) {x1 : Int32} :
    ∀ (k q : Nat) (U : bf_T) (X : Nat → List Nat), q + k = 6 → bf_st I X U → U.1 = T.1 → (∀ p, q ≤ p → U.2 p = T.2 p) → X 2 = h →
      (∀ X', bf_st I X' (T.1, fun p => if q ≤ p ∧ p < 6 ∧ T.1.testBit p = true then (T.2 p).drop h.length else U.2 p) → (∀ j, j < 9 → X' j = X j) → (∀ j, 15 ≤ j → X' j = X j) → Q none (mc_put (bo_put G a I A J X' P) (a + 1) Im Am Jm Xm Pm)) →
      rz_T w (d + 1) 0 0 m_Bld_cutLead 0 0 82 [some (.ref a), some (.int x1), some (.int (nI q))] [] (mc_put (bo_put G a I A J X P) (a + 1) Im Am Jm Xm Pm) Q := by
  intro k
  induction k with
  | zero =>
    intro q U X hk hS hU1 hU2 hX hc
    refine rz_blk' [(.iload_n 2, 1, 0, 0), (.bipush 6, 2, 0, 0), (.if_icmp .ge 36, 3, 0, 0)] (by decide +kernel) (Nat.le_refl _) (Nat.le_refl _) (fun K R hK hR => ?_)
    simp only [rw_b6, ↓rx_bipush, ↓rx_if_icmp_ge, ↓rx_iload_n2, ↓rx_nil, ↓ry_i2, ↓ry_li0s, ↓ry_li0z, ↓bl_ob, ↓bl_r71, ↓bl_i76, ↓bl_i77, ↓bl_i78, ↓bl_i79, ↓bl_r80, ↓bl_r81, ↓mc_ob, ↓mc_i1, ↓mc_n1, ↓mc_i2, ↓mc_n2, ↓mc_i3, ↓mc_n3, ↓mc_r4, ↓mc_r7, ↓mc_i8, ↓mc_n8, ↓mc_i9, ↓mc_n9, rz_set, rz_nol, rz_clr, List.set_cons_zero, List.set_cons_succ, rz_tr, Nat.reduceAdd, Int.reduceAdd, Int.reduceToNat, Int.reduceSub, Int.reduceNeg, Int.cast_ofNat_Int]
    rw [nI_leI (by omega) (by omega)]
    refine ⟨fun c => hK _ _ _ _ ?_, fun c => by omega⟩
    refine rz_blk' [(.return_, 1, 0, 0)] (by decide +kernel) (Nat.le_refl _) (Nat.le_refl _) (fun K R hK hR => ?_)
    simp only [↓rx_nil, ↓rx_return_, ↓bl_ob, ↓bl_r71, ↓bl_i76, ↓bl_i77, ↓bl_i78, ↓bl_i79, ↓bl_r80, ↓bl_r81, ↓mc_ob, ↓mc_i1, ↓mc_n1, ↓mc_i2, ↓mc_n2, ↓mc_i3, ↓mc_n3, ↓mc_r4, ↓mc_r7, ↓mc_i8, ↓mc_n8, ↓mc_i9, ↓mc_n9, rz_set, rz_nol, rz_clr, List.set_cons_zero, List.set_cons_succ, rz_tr, Nat.reduceAdd, Int.reduceAdd, Int.reduceToNat, Int.reduceSub, Int.reduceNeg, Int.cast_ofNat_Int]
    refine hR _ _ (rz_nb_i (by decide)) (hc X ?_ (fun _ _ => rfl) (fun _ _ => rfl))
    obtain ⟨s0, s1, s2, s3⟩ := hS
    refine ⟨by rw [s0, hU1], by rw [← hU1]; exact s1, fun p hp => ?_, s3⟩
    dsimp only
    rw [if_neg (by omega)]; exact s2 p hp
  | succ k ih =>
    intro q U X hk hS hU1 hU2 hX hc
    obtain ⟨s0, s1, s2, s3⟩ := id hS
    rw [hU1] at s0 s1
    have wl := bl_wi82 (G := G) (a := a) (I := I) (A := A) (J := J) (X := X) (P := P) (Im := Im) (Am := Am) (Jm := Jm) (Xm := Xm) (Pm := Pm) s3.2.2.1
    rw [hX] at wl
    refine rz_blk' [(.iload_n 2, 1, 0, 0), (.bipush 6, 2, 0, 0), (.if_icmp .ge 36, 3, 0, 0), (.aload_n 0, 1, 0, 0), (.getfield 90, 3, 8, 10), (.iload_n 2, 1, 0, 0)] (by decide +kernel) (Nat.le_refl _) (Nat.le_refl _) (fun K R hK hR => ?_)
    simp only [rw_b6, ↓rx_aload_n0, ↓rx_bipush, ↓rx_getfield, ↓rx_if_icmp_ge, ↓rx_iload_n2, ↓rx_nil, ↓ry_fvs, ↓ry_fvz, ↓ry_i2, ↓ry_li0s, ↓ry_li0z, ↓ry_lr0s, ↓ry_lr0z, ↓ry_obu, ↓ry_r1, ↓bl_ob, ↓bl_r71, ↓bl_i76, ↓bl_i77, ↓bl_i78, ↓bl_i79, ↓bl_r80, ↓bl_r81, ↓mc_ob, ↓mc_i1, ↓mc_n1, ↓mc_i2, ↓mc_n2, ↓mc_i3, ↓mc_n3, ↓mc_r4, ↓mc_r7, ↓mc_i8, ↓mc_n8, ↓mc_i9, ↓mc_n9, s0, rz_set, rz_nol, rz_clr, List.set_cons_zero, List.set_cons_succ, rz_tr, Nat.reduceAdd, Int.reduceAdd, Int.reduceToNat, Int.reduceSub, Int.reduceNeg, Int.cast_ofNat_Int]
    rw [nI_leI (by omega) (by omega)]
    refine ⟨fun c => by omega, fun c => hK _ _ _ _ ?_⟩
    refine rz_cN (As := [.int (nI T.1), .int (nI q)]) (S := []) l_Bld_119 (by decide +kernel) rfl (Nat.le_of_ble_eq_true rfl) (Nat.le_refl _) (Nat.le_refl _) (c_Desk_has (by omega) (by omega)) (fun r G' hr => ?_)
    obtain ⟨rfl, hg⟩ := hr
    have hg := hg.symm
    subst hg
    simp only [Option.toList, List.cons_append, List.nil_append]
    by_cases ck : T.1.testBit q = true
    · rw [if_pos ck]
      have wn := bl_wiN (G := G) (a := a) (I := I) (A := A) (J := J) (X := X) (P := P) (Im := Im) (Am := Am) (Jm := Jm) (Xm := Xm) (Pm := Pm) (q := q) (by omega) (s3.2.2.2.1 q (by omega))
      rw [s2 q (by omega), hU2 q (Nat.le_refl _)] at wn
      have hll := hle q (by omega) ck
      have hl48 := wl.2.2.1
      refine rz_blk' [(.ifCond .eq 19, 3, 0, 0), (.aload_n 0, 1, 0, 0), (.getfield 50, 3, 8, 11), (.iload_n 2, 1, 0, 0), (.aaload, 1, 0, 0), (.aload_n 0, 1, 0, 0), (.getfield 53, 3, 8, 12), (.getfield 164, 3, 0, 1)] (by decide +kernel) (Nat.le_refl _) (Nat.le_refl _) (fun K R hK hR => ?_)
      simp only [Nat.reduceEqDiff, false_or, or_false, or_true, reduceIte, ↓rx_aaload, ↓rx_aload_n0, ↓rx_getfield, ↓rx_ifCond_eq, ↓rx_iload_n2, ↓rx_nil, ↓ry_fvs, ↓ry_fvz, ↓ry_i1, ↓ry_li0s, ↓ry_li0z, ↓ry_lr0s, ↓ry_lr0z, ↓ry_obu, ↓ry_r1, ↓ry_ri, true_and, true_or, ↓bl_ob, ↓bl_r71, ↓bl_i76, ↓bl_i77, ↓bl_i78, ↓bl_i79, ↓bl_r80, ↓bl_r81, ↓mc_ob, ↓mc_i1, ↓mc_n1, ↓mc_i2, ↓mc_n2, ↓mc_i3, ↓mc_n3, ↓mc_r4, ↓mc_r7, ↓mc_i8, ↓mc_n8, ↓mc_i9, ↓mc_n9, va_rfs, ↓rh_ob wl.1, rz_set, rz_nol, rz_clr, List.set_cons_zero, List.set_cons_succ, rz_tr, Nat.reduceAdd, Int.reduceAdd, Int.reduceToNat, Int.reduceSub, Int.reduceNeg, Int.cast_ofNat_Int]
      rw [nI_clamp (by omega)]
      refine ⟨fun z => absurd z (by decide), fun _ => ⟨vp_in_nI (by omega) (by decide), hK _ _ _ _ ?_⟩⟩
      refine rz_cV (As := [.int (nI h.length)]) (b := a + (86 + 4 * q)) (S := []) l_Bld_167 (by decide +kernel) rfl wn.1 rfl (Nat.le_of_ble_eq_true rfl) (Nat.le_refl _) (Nat.le_refl _) (c_Word_drop wn hll) (fun r G' hr => ?_)
      obtain ⟨rfl, rfl⟩ := hr
      rw [bl_wpN (by omega)]
      simp only [Option.toList, List.nil_append]
      refine rz_blk' [(.iinc 2 1, 3, 0, 0), (.goto (-36), 3, 0, 0)] (by decide +kernel) (Nat.le_refl _) (Nat.le_refl _) (fun K R hK hR => ?_)
      simp only [rw_c1, ↓rx_goto, ↓rx_iinc, ↓rx_nil, ↓ry_li0s, ↓ry_li0z, ↓bl_ob, ↓bl_r71, ↓bl_i76, ↓bl_i77, ↓bl_i78, ↓bl_i79, ↓bl_r80, ↓bl_r81, ↓mc_ob, ↓mc_i1, ↓mc_n1, ↓mc_i2, ↓mc_n2, ↓mc_i3, ↓mc_n3, ↓mc_r4, ↓mc_r7, ↓mc_i8, ↓mc_n8, ↓mc_i9, ↓mc_n9, nI_add, rz_set, rz_nol, rz_clr, List.set_cons_zero, List.set_cons_succ, rz_tr, Nat.reduceAdd, Int.reduceAdd, Int.reduceToNat, Int.reduceSub, Int.reduceNeg, Int.cast_ofNat_Int]
      refine hK _ _ _ _ (ih (q + 1) (T.1, va_up U.2 q ((T.2 q).drop h.length)) _ (by omega) ⟨s0, s1, fun p hp => ?_, bl_xo_up s3 (Or.inr ⟨Or.inr (by omega), wd_ok_drop wn.2.2⟩)⟩ rfl (fun p hp => by dsimp only; rw [va_up_ne _ _ (by omega)]; exact hU2 p (by omega)) (by rw [va_up_ne _ _ (by omega)]; exact hX) (fun X' t1 t2 t3 => hc X' ?_ (fun j hj => (t2 j hj).trans (va_up_ne _ _ (by omega))) (fun j hj => (t3 j hj).trans (va_up_ne _ _ (by omega)))))
      · dsimp only
        by_cases cp : p = q
        · subst cp; rw [va_up_self, va_up_self]
        · rw [va_up_ne _ _ (by omega), va_up_ne _ _ cp]; exact s2 p hp
      · refine ⟨t1.1, t1.2.1, fun p hp => ?_, t1.2.2.2⟩
        rw [t1.2.2.1 p hp]
        dsimp only
        by_cases cp : p = q
        · subst cp; rw [if_neg (by omega), if_pos ⟨Nat.le_refl _, hp, ck⟩, va_up_self]
        · by_cases c2 : q + 1 ≤ p ∧ p < 6 ∧ T.1.testBit p = true
          · rw [if_pos c2, if_pos ⟨by omega, c2.2⟩]
          · rw [if_neg c2, if_neg (fun z => c2 ⟨by omega, z.2⟩), va_up_ne _ _ cp]
    · rw [if_neg ck]
      refine rz_blk' [(.ifCond .eq 19, 3, 0, 0)] (by decide +kernel) (Nat.le_refl _) (Nat.le_refl _) (fun K R hK hR => ?_)
      simp only [↓rx_ifCond_eq, ↓rx_nil, ↓ry_i1, ↓bl_ob, ↓bl_r71, ↓bl_i76, ↓bl_i77, ↓bl_i78, ↓bl_i79, ↓bl_r80, ↓bl_r81, ↓mc_ob, ↓mc_i1, ↓mc_n1, ↓mc_i2, ↓mc_n2, ↓mc_i3, ↓mc_n3, ↓mc_r4, ↓mc_r7, ↓mc_i8, ↓mc_n8, ↓mc_i9, ↓mc_n9, rz_set, rz_nol, rz_clr, List.set_cons_zero, List.set_cons_succ, rz_tr, Nat.reduceAdd, Int.reduceAdd, Int.reduceToNat, Int.reduceSub, Int.reduceNeg, Int.cast_ofNat_Int]
      refine ⟨fun _ => hK _ _ _ _ ?_, fun z => absurd trivial z⟩
      refine rz_blk' [(.iinc 2 1, 3, 0, 0), (.goto (-36), 3, 0, 0)] (by decide +kernel) (Nat.le_refl _) (Nat.le_refl _) (fun K R hK hR => ?_)
      simp only [rw_c1, ↓rx_goto, ↓rx_iinc, ↓rx_nil, ↓ry_li0s, ↓ry_li0z, ↓bl_ob, ↓bl_r71, ↓bl_i76, ↓bl_i77, ↓bl_i78, ↓bl_i79, ↓bl_r80, ↓bl_r81, ↓mc_ob, ↓mc_i1, ↓mc_n1, ↓mc_i2, ↓mc_n2, ↓mc_i3, ↓mc_n3, ↓mc_r4, ↓mc_r7, ↓mc_i8, ↓mc_n8, ↓mc_i9, ↓mc_n9, nI_add, rz_set, rz_nol, rz_clr, List.set_cons_zero, List.set_cons_succ, rz_tr, Nat.reduceAdd, Int.reduceAdd, Int.reduceToNat, Int.reduceSub, Int.reduceNeg, Int.cast_ofNat_Int]
      refine hK _ _ _ _ (ih (q + 1) U X (by omega) hS hU1 (fun p hp => hU2 p (by omega)) hX (fun X' t1 t2 t3 => hc X' ?_ t2 t3))
      refine ⟨t1.1, t1.2.1, fun p hp => ?_, t1.2.2.2⟩
      rw [t1.2.2.1 p hp]
      dsimp only
      by_cases cp : p = q
      · subst cp; rw [if_neg (by omega), if_neg (fun z => ck z.2.2)]
      · by_cases c2 : q + 1 ≤ p ∧ p < 6 ∧ T.1.testBit p = true
        · rw [if_pos c2, if_pos ⟨by omega, c2.2⟩]
        · rw [if_neg c2, if_neg (fun z => c2 ⟨by omega, z.2⟩)]
end BCL

set_option maxRecDepth 100000 in
set_option maxHeartbeats 4000000 in
/-- cutLead() -/
theorem c_Bld_cutLead {w : rz_w} {d : Nat} {G : rz_G} {a : Nat} {I : Nat → Int32} {A : Nat → Nat → Int32} {J : Nat → Nat → Int64} {X : Nat → List Nat} {P : Nat → Nat} {Im : Nat → Int32} {Am : Nat → Nat → Int32} {Jm : Nat → Nat → Int64} {Xm : Nat → List Nat} {Pm : Nat → Nat} {T : bf_T} (hS : bf_st I X T) : rz_C w (d + 1) 0 0 y_Bld_cutLead m_Bld_cutLead [.ref a] (mc_put (bo_put G a I A J X P) (a + 1) Im Am Jm Xm Pm) (fun r G' => r = none ∧ ∃ X', G' = (mc_put (bo_put G a I A J X' P) (a + 1) Im Am Jm Xm Pm) ∧ bf_st I X' (bc_ct T) ∧ (∀ j, j < 2 ∨ (3 ≤ j ∧ j < 9) ∨ 15 ≤ j → X' j = X j) ∧ ∀ h, bc_ld T = some h → X' 2 = h) := by
  refine rz_enter' [some (.ref a), none, none] (by decide +kernel) rfl rfl (Nat.le_of_ble_eq_true rfl) rfl ?_
  refine rz_blk' [(.iconst 0, 1, 0, 0), (.istore_n 1, 1, 0, 0)] (by decide +kernel) (Nat.le_refl _) (Nat.le_refl _) (fun K R hK hR => ?_)
  simp only [rw_c0, ↓rx_iconst, ↓rx_istore_n1, ↓rx_nil, ↓ry_i1, ↓bl_ob, ↓bl_r71, ↓bl_i76, ↓bl_i77, ↓bl_i78, ↓bl_i79, ↓bl_r80, ↓bl_r81, ↓mc_ob, ↓mc_i1, ↓mc_n1, ↓mc_i2, ↓mc_n2, ↓mc_i3, ↓mc_n3, ↓mc_r4, ↓mc_r7, ↓mc_i8, ↓mc_n8, ↓mc_i9, ↓mc_n9, rz_set, rz_nol, rz_clr, List.set_cons_zero, List.set_cons_succ, rz_tr, Nat.reduceAdd, Int.reduceAdd, Int.reduceToNat, Int.reduceSub, Int.reduceNeg, Int.cast_ofNat_Int]
  refine hK _ _ _ _ ?_
  refine rz_blk' [(.iconst 0, 1, 0, 0), (.istore_n 2, 1, 0, 0)] (by decide +kernel) (Nat.le_refl _) (Nat.le_refl _) (fun K R hK hR => ?_)
  simp only [rw_c0, ↓rx_iconst, ↓rx_istore_n2, ↓rx_nil, ↓ry_i1, ↓bl_ob, ↓bl_r71, ↓bl_i76, ↓bl_i77, ↓bl_i78, ↓bl_i79, ↓bl_r80, ↓bl_r81, ↓mc_ob, ↓mc_i1, ↓mc_n1, ↓mc_i2, ↓mc_n2, ↓mc_i3, ↓mc_n3, ↓mc_r4, ↓mc_r7, ↓mc_i8, ↓mc_n8, ↓mc_i9, ↓mc_n9, rz_set, rz_nol, rz_clr, List.set_cons_zero, List.set_cons_succ, rz_tr, Nat.reduceAdd, Int.reduceAdd, Int.reduceToNat, Int.reduceSub, Int.reduceNeg, Int.cast_ofNat_Int]
  refine hK _ _ _ _ (bc_1 6 0 none X rfl hS (fun h e => by cases e) (fun X2 z2 t1 t2 t3 => ?_))
  change ∀ h, bc_ld T = some h → X2 2 = h at t3
  change rz_T w (d + 1) 0 0 m_Bld_cutLead 0 0 80 [some (.ref a), some (.int (rz_b (bc_ld T).isSome)), z2] [] (mc_put (bo_put G a I A J X2 P) (a + 1) Im Am Jm Xm Pm) _
  refine rz_blk' [(.iconst 0, 1, 0, 0), (.istore_n 2, 1, 0, 0)] (by decide +kernel) (Nat.le_refl _) (Nat.le_refl _) (fun K R hK hR => ?_)
  simp only [rw_c0, ↓rx_iconst, ↓rx_istore_n2, ↓rx_nil, ↓ry_i1, ↓bl_ob, ↓bl_r71, ↓bl_i76, ↓bl_i77, ↓bl_i78, ↓bl_i79, ↓bl_r80, ↓bl_r81, ↓mc_ob, ↓mc_i1, ↓mc_n1, ↓mc_i2, ↓mc_n2, ↓mc_i3, ↓mc_n3, ↓mc_r4, ↓mc_r7, ↓mc_i8, ↓mc_n8, ↓mc_i9, ↓mc_n9, rz_set, rz_nol, rz_clr, List.set_cons_zero, List.set_cons_succ, rz_tr, Nat.reduceAdd, Int.reduceAdd, Int.reduceToNat, Int.reduceSub, Int.reduceNeg, Int.cast_ofNat_Int]
  refine hK _ _ _ _ ?_
  cases hld : bc_ld T with
  | some h =>
    refine bc_2 (T := T) (h := h) (fun p hp hb => bc_lk_le 6 0 none h hld p (by omega) (by omega) hb) 6 0 T X2 rfl t1 rfl (fun _ _ => rfl) (t3 h hld) (fun X3 u1 u2 u3 => ⟨rfl, X3, rfl, ?_, fun j hj => ?_, fun h' e => ?_⟩)
    · have : bc_ct T = bc_dr h.length T := by simp only [bc_ct, hld]
      rw [this]
      refine ⟨u1.1, u1.2.1, fun p hp => ?_, u1.2.2.2⟩
      rw [u1.2.2.1 p hp]
      simp [bc_dr]
    · by_cases c : j < 9
      · rw [u2 j c, t2 j (by omega)]
      · rw [u3 j (by omega), t2 j (by omega)]
    · cases e; rw [u2 2 (by decide)]; exact t3 h hld
  | none =>
    have hz := (bc_lk_none 6 0 none hld).2
    refine bc_2 (T := T) (h := X2 2) (fun p hp hb => by rw [hz p (by omega) (by omega)] at hb; cases hb) 6 0 T X2 rfl t1 rfl (fun _ _ => rfl) rfl (fun X3 u1 u2 u3 => ⟨rfl, X3, rfl, ?_, fun j hj => ?_, fun h' e => by cases e⟩)
    · have : bc_ct T = T := by simp only [bc_ct, hld]
      rw [this]
      refine ⟨u1.1, u1.2.1, fun p hp => ?_, u1.2.2.2⟩
      rw [u1.2.2.1 p hp]
      dsimp only
      rw [if_neg (fun z => by rw [hz p (by omega) (by omega)] at z; cases z.2.2)]
    · by_cases c : j < 9
      · rw [u2 j c, t2 j (by omega)]
      · rw [u3 j (by omega), t2 j (by omega)]

