/-! WriterDesk$PairSearch: cutAlike, isNode, endsApart, follow, closeGroup, begin -/
def ps_ap (xs ys : List Nat) : Bool := decide (wd_lcp xs ys < xs.length) && decide (wd_lcp xs ys < ys.length)
def ps_cl (xs ys : List Nat) : List Nat := if ps_ap xs ys then [] else xs.drop (wd_lcp xs ys)
def ps_cr (xs ys : List Nat) : List Nat := if ps_ap xs ys then [] else ys.drop (wd_lcp xs ys)
def rz_b (b : Bool) : Int32 := if b then 1 else 0
theorem rz_b_nb {M : rz_M} {b : Bool} : rz_nb M (some (.int (rz_b b))) := by cases b; exact rz_nb_0; exact rz_nb_1
theorem rz_b_0 {b : Bool} : rz_b b = 0 ↔ b = false := by cases b <;> simp [rz_b]
theorem wd_ok_drop {c k : Nat} {xs : List Nat} (h : wd_ok c xs) : wd_ok c (xs.drop k) := ⟨by rw [List.length_drop]; have := h.1; omega, fun x hx => h.2.1 x (List.mem_of_mem_drop hx), h.2.2⟩
theorem wd_ok_nil {c : Nat} (h : c ≤ 300) : wd_ok c [] := ⟨by simp, by simp, h⟩
theorem va_up_comm {α : Type} {f : Nat → α} {i j : Nat} {u v : α} (h : i ≠ j) : va_up (va_up f i u) j v = va_up (va_up f j v) i u := by
  funext k; simp only [va_up]; by_cases q : k = i <;> by_cases q2 : k = j <;> simp [q, q2] <;> omega
set_option maxRecDepth 100000 in
set_option maxHeartbeats 4000000 in
/-- cutAlike() -/
theorem c_Pair_cutAlike {w : rz_w} {d : Nat} {G : rz_G} {a : Nat} {I : Nat → Int32} {A : Nat → Nat → Int32} {J : Nat → Nat → Int64} {X : Nat → List Nat} {P : Nat → Nat} (h0 : wd_ok 26 (X 0)) (h1 : wd_ok 26 (X 1)) : rz_C w (d + 1) 0 0 y_Pair_cutAlike m_Pair_cutAlike [.ref a] (ps_put G a I A J X P) (fun r G' => r = some (.int (rz_b (ps_ap (X 0) (X 1)))) ∧ G' = ps_put G a I A J (va_up (va_up X 0 (ps_cl (X 0) (X 1))) 1 (ps_cr (X 0) (X 1))) P) := by
  have hl := wd_lcp_le (X 0) (X 1)
  refine rz_enter' [some (.ref a), none, none] (by decide +kernel) rfl rfl (Nat.le_of_ble_eq_true rfl) rfl ?_
  refine rz_blk' [(.aload_n 0, 1, 0, 0), (.getfield 52, 3, 4, 16), (.aload_n 0, 1, 0, 0), (.getfield 56, 3, 4, 17)] (by decide +kernel) (Nat.le_refl _) (Nat.le_refl _) (fun K R hK hR => ?_)
  simp only [↓rx_aload_n0, ↓rx_getfield, ↓rx_nil, ↓ry_fvs, ↓ry_fvz, ↓ry_lr0s, ↓ry_lr0z, ↓ry_obu, ↓ry_r1, ↓ps_ob, ↓ps_i1, ↓ps_n1, ↓ps_i2, ↓ps_n2, ↓ps_i3, ↓ps_n3, ↓ps_r4, ↓ps_r5, ↓ps_i6, ↓ps_n6, ↓ps_i7, ↓ps_n7, ↓ps_i8, ↓ps_n8, ↓ps_i9, ↓ps_n9, ↓ps_i10, ↓ps_n10, ↓ps_i11, ↓ps_n11, rz_set, rz_nol, rz_clr, List.set_cons_zero, List.set_cons_succ, rz_tr, Nat.reduceAdd, Int.reduceAdd, Int.reduceToNat, Int.reduceSub, Int.reduceNeg, Int.cast_ofNat_Int]
  refine hK _ _ _ _ ?_
  refine rz_cV (As := [.ref (a + 14)]) (b := a + 12) (S := []) l_Pair_128 (by decide +kernel) rfl (ps_wi12 h0).1 rfl (Nat.le_of_ble_eq_true rfl) (Nat.le_refl _) (Nat.le_refl _) (c_Word_alikeWith (ps_wi12 h0) (ps_wi14 h1)) (fun r G' hq => ?_)
  obtain ⟨rfl, rfl⟩ := hq
  simp only [Option.toList, List.cons_append, List.nil_append]
  generalize hk : wd_lcp (X 0) (X 1) = k at hl
  refine rz_blk' [(.istore_n 1, 1, 0, 0)] (by decide +kernel) (Nat.le_refl _) (Nat.le_refl _) (fun K R hK hR => ?_)
  simp only [↓rx_istore_n1, ↓rx_nil, ↓ry_i1, ↓ps_ob, ↓ps_i1, ↓ps_n1, ↓ps_i2, ↓ps_n2, ↓ps_i3, ↓ps_n3, ↓ps_r4, ↓ps_r5, ↓ps_i6, ↓ps_n6, ↓ps_i7, ↓ps_n7, ↓ps_i8, ↓ps_n8, ↓ps_i9, ↓ps_n9, ↓ps_i10, ↓ps_n10, ↓ps_i11, ↓ps_n11, rz_set, rz_nol, rz_clr, List.set_cons_zero, List.set_cons_succ, rz_tr, Nat.reduceAdd, Int.reduceAdd, Int.reduceToNat, Int.reduceSub, Int.reduceNeg, Int.cast_ofNat_Int]
  refine hK _ _ _ _ ?_
  refine rz_blk' [(.aload_n 0, 1, 0, 0), (.getfield 52, 3, 4, 16), (.iload_n 1, 1, 0, 0)] (by decide +kernel) (Nat.le_refl _) (Nat.le_refl _) (fun K R hK hR => ?_)
  simp only [↓rx_aload_n0, ↓rx_getfield, ↓rx_iload_n1, ↓rx_nil, ↓ry_fvs, ↓ry_fvz, ↓ry_li0s, ↓ry_li0z, ↓ry_lr0s, ↓ry_lr0z, ↓ry_obu, ↓ry_r1, ↓ps_ob, ↓ps_i1, ↓ps_n1, ↓ps_i2, ↓ps_n2, ↓ps_i3, ↓ps_n3, ↓ps_r4, ↓ps_r5, ↓ps_i6, ↓ps_n6, ↓ps_i7, ↓ps_n7, ↓ps_i8, ↓ps_n8, ↓ps_i9, ↓ps_n9, ↓ps_i10, ↓ps_n10, ↓ps_i11, ↓ps_n11, rz_set, rz_nol, rz_clr, List.set_cons_zero, List.set_cons_succ, rz_tr, Nat.reduceAdd, Int.reduceAdd, Int.reduceToNat, Int.reduceSub, Int.reduceNeg, Int.cast_ofNat_Int]
  refine hK _ _ _ _ ?_
  refine rz_cV (As := [.int (nI k)]) (b := a + 12) (S := []) l_Pair_132 (by decide +kernel) rfl (ps_wi12 h0).1 rfl (Nat.le_of_ble_eq_true rfl) (Nat.le_refl _) (Nat.le_refl _) (c_Word_drop (ps_wi12 h0) hl.1) (fun r G' hq => ?_)
  obtain ⟨rfl, rfl⟩ := hq
  rw [ps_wp12]
  simp only [Option.toList, List.nil_append]
  generalize hX1 : va_up X 0 ((X 0).drop k) = X1
  have x10 : X1 0 = (X 0).drop k := by rw [← hX1, va_up_self]
  have x11 : X1 1 = X 1 := by rw [← hX1, va_up_ne _ _ (by decide)]
  have o10 : wd_ok 26 (X1 0) := by rw [x10]; exact wd_ok_drop h0
  have o11 : wd_ok 26 (X1 1) := by rw [x11]; exact h1
  refine rz_blk' [(.aload_n 0, 1, 0, 0), (.getfield 56, 3, 4, 17), (.iload_n 1, 1, 0, 0)] (by decide +kernel) (Nat.le_refl _) (Nat.le_refl _) (fun K R hK hR => ?_)
  simp only [↓rx_aload_n0, ↓rx_getfield, ↓rx_iload_n1, ↓rx_nil, ↓ry_fvs, ↓ry_fvz, ↓ry_li0s, ↓ry_li0z, ↓ry_lr0s, ↓ry_lr0z, ↓ry_obu, ↓ry_r1, ↓ps_ob, ↓ps_i1, ↓ps_n1, ↓ps_i2, ↓ps_n2, ↓ps_i3, ↓ps_n3, ↓ps_r4, ↓ps_r5, ↓ps_i6, ↓ps_n6, ↓ps_i7, ↓ps_n7, ↓ps_i8, ↓ps_n8, ↓ps_i9, ↓ps_n9, ↓ps_i10, ↓ps_n10, ↓ps_i11, ↓ps_n11, rz_set, rz_nol, rz_clr, List.set_cons_zero, List.set_cons_succ, rz_tr, Nat.reduceAdd, Int.reduceAdd, Int.reduceToNat, Int.reduceSub, Int.reduceNeg, Int.cast_ofNat_Int]
  refine hK _ _ _ _ ?_
  refine rz_cV (As := [.int (nI k)]) (b := a + 14) (S := []) l_Pair_132 (by decide +kernel) rfl (ps_wi14 o11).1 rfl (Nat.le_of_ble_eq_true rfl) (Nat.le_refl _) (Nat.le_refl _) (c_Word_drop (ps_wi14 o11) (by rw [x11]; exact hl.2)) (fun r G' hq => ?_)
  obtain ⟨rfl, rfl⟩ := hq
  rw [ps_wp14]
  simp only [Option.toList, List.nil_append]
  generalize hX2 : va_up X1 1 ((X1 1).drop k) = X2
  have x20 : X2 0 = (X 0).drop k := by rw [← hX2, va_up_ne _ _ (by decide), x10]
  have x21 : X2 1 = (X 1).drop k := by rw [← hX2, va_up_self, x11]
  have o20 : wd_ok 26 (X2 0) := by rw [x20]; exact wd_ok_drop h0
  have o21 : wd_ok 26 (X2 1) := by rw [x21]; exact wd_ok_drop h1
  have w0 := (ps_wi12 (G := G) (a := a) (I := I) (A := A) (J := J) (P := P) o20).1
  have w1 := (ps_wi14 (G := G) (a := a) (I := I) (A := A) (J := J) (P := P) o21).1
  have hap : ps_ap (X 0) (X 1) = (decide (0 < (X2 0).length) && decide (0 < (X2 1).length)) := by
    simp only [ps_ap, hk, x20, x21, List.length_drop]
    congr 1
    · congr 1; apply propext; omega
    · congr 1; apply propext; omega
  have b0 := o20.1
  have b1 := o21.1
  have hend : ∀ X3 : Nat → List Nat, X3 = va_up (va_up X 0 (ps_cl (X 0) (X 1))) 1 (ps_cr (X 0) (X 1)) → rz_T w (d + 1) 0 0 m_Pair_cutAlike 0 0 72 [some (.ref a), some (.int (nI k)), some (.int (rz_b (ps_ap (X 0) (X 1))))] [] (ps_put G a I A J X3 P) (fun r G' => r = some (.int (rz_b (ps_ap (X 0) (X 1)))) ∧ G' = ps_put G a I A J (va_up (va_up X 0 (ps_cl (X 0) (X 1))) 1 (ps_cr (X 0) (X 1))) P) := by
    intro X3 hX3
    refine rz_blk' [(.iload_n 2, 1, 0, 0), (.ireturn, 1, 0, 0)] (by decide +kernel) (Nat.le_refl _) (Nat.le_refl _) (fun K R hK hR => ?_)
    simp only [↓rx_iload_n2, ↓rx_ireturn, ↓rx_nil, ↓ry_li0s, ↓ry_li0z, ↓ps_ob, ↓ps_i1, ↓ps_n1, ↓ps_i2, ↓ps_n2, ↓ps_i3, ↓ps_n3, ↓ps_r4, ↓ps_r5, ↓ps_i6, ↓ps_n6, ↓ps_i7, ↓ps_n7, ↓ps_i8, ↓ps_n8, ↓ps_i9, ↓ps_n9, ↓ps_i10, ↓ps_n10, ↓ps_i11, ↓ps_n11, rz_set, rz_nol, rz_clr, List.set_cons_zero, List.set_cons_succ, rz_tr, Nat.reduceAdd, Int.reduceAdd, Int.reduceToNat, Int.reduceSub, Int.reduceNeg, Int.cast_ofNat_Int]
    exact hR _ _ rz_b_nb ⟨rfl, by rw [hX3]⟩
  have hmid : rz_T w (d + 1) 0 0 m_Pair_cutAlike 0 0 53 [some (.ref a), some (.int (nI k)), none] [.int (rz_b (ps_ap (X 0) (X 1)))] (ps_put G a I A J X2 P) (fun r G' => r = some (.int (rz_b (ps_ap (X 0) (X 1)))) ∧ G' = ps_put G a I A J (va_up (va_up X 0 (ps_cl (X 0) (X 1))) 1 (ps_cr (X 0) (X 1))) P) := by
    refine rz_blk' [(.istore_n 2, 1, 0, 0)] (by decide +kernel) (Nat.le_refl _) (Nat.le_refl _) (fun K R hK hR => ?_)
    simp only [↓rx_istore_n2, ↓rx_nil, ↓ry_i1, ↓ps_ob, ↓ps_i1, ↓ps_n1, ↓ps_i2, ↓ps_n2, ↓ps_i3, ↓ps_n3, ↓ps_r4, ↓ps_r5, ↓ps_i6, ↓ps_n6, ↓ps_i7, ↓ps_n7, ↓ps_i8, ↓ps_n8, ↓ps_i9, ↓ps_n9, ↓ps_i10, ↓ps_n10, ↓ps_i11, ↓ps_n11, rz_set, rz_nol, rz_clr, List.set_cons_zero, List.set_cons_succ, rz_tr, Nat.reduceAdd, Int.reduceAdd, Int.reduceToNat, Int.reduceSub, Int.reduceNeg, Int.cast_ofNat_Int]
    refine hK _ _ _ _ ?_
    refine rz_blk' [(.iload_n 2, 1, 0, 0), (.ifCond .eq 17, 3, 0, 0), (.aload_n 0, 1, 0, 0), (.getfield 52, 3, 4, 16)] (by decide +kernel) (Nat.le_refl _) (Nat.le_refl _) (fun K R hK hR => ?_)
    simp only [↓rx_aload_n0, ↓rx_getfield, ↓rx_ifCond_eq, ↓rx_iload_n2, ↓rx_nil, ↓ry_fvs, ↓ry_fvz, ↓ry_i1, ↓ry_li0s, ↓ry_li0z, ↓ry_lr0s, ↓ry_lr0z, ↓ry_obu, ↓ry_r1, ↓ps_ob, ↓ps_i1, ↓ps_n1, ↓ps_i2, ↓ps_n2, ↓ps_i3, ↓ps_n3, ↓ps_r4, ↓ps_r5, ↓ps_i6, ↓ps_n6, ↓ps_i7, ↓ps_n7, ↓ps_i8, ↓ps_n8, ↓ps_i9, ↓ps_n9, ↓ps_i10, ↓ps_n10, ↓ps_i11, ↓ps_n11, rz_set, rz_nol, rz_clr, List.set_cons_zero, List.set_cons_succ, rz_tr, Nat.reduceAdd, Int.reduceAdd, Int.reduceToNat, Int.reduceSub, Int.reduceNeg, Int.cast_ofNat_Int]
    rw [rz_b_0]
    refine ⟨fun c1 => hK _ _ _ _ (hend X2 ?_), fun c1 => hK _ _ _ _ ?_⟩
    · simp only [ps_cl, ps_cr, c1, hk, Bool.false_eq_true, if_false]
      rw [← hX2, ← hX1, va_up_ne _ _ (show (1 : Nat) ≠ 0 by decide)]
    have c1 : ps_ap (X 0) (X 1) = true := by simpa using c1
    refine rz_cV (As := []) (b := a + 12) (S := []) l_Pair_138 (by decide +kernel) rfl w0 rfl (Nat.le_of_ble_eq_true rfl) (Nat.le_refl _) (Nat.le_refl _) (c_Word_clear (ps_wi12 o20)) (fun r G' hq => ?_)
    obtain ⟨rfl, rfl⟩ := hq
    rw [ps_wp12]
    simp only [Option.toList, List.nil_append]
    have o31 : wd_ok 26 (va_up X2 0 [] 1) := by rw [va_up_ne _ _ (by decide)]; exact o21
    refine rz_blk' [(.aload_n 0, 1, 0, 0), (.getfield 56, 3, 4, 17)] (by decide +kernel) (Nat.le_refl _) (Nat.le_refl _) (fun K R hK hR => ?_)
    simp only [↓rx_aload_n0, ↓rx_getfield, ↓rx_nil, ↓ry_fvs, ↓ry_fvz, ↓ry_lr0s, ↓ry_lr0z, ↓ry_obu, ↓ry_r1, ↓ps_ob, ↓ps_i1, ↓ps_n1, ↓ps_i2, ↓ps_n2, ↓ps_i3, ↓ps_n3, ↓ps_r4, ↓ps_r5, ↓ps_i6, ↓ps_n6, ↓ps_i7, ↓ps_n7, ↓ps_i8, ↓ps_n8, ↓ps_i9, ↓ps_n9, ↓ps_i10, ↓ps_n10, ↓ps_i11, ↓ps_n11, rz_set, rz_nol, rz_clr, List.set_cons_zero, List.set_cons_succ, rz_tr, Nat.reduceAdd, Int.reduceAdd, Int.reduceToNat, Int.reduceSub, Int.reduceNeg, Int.cast_ofNat_Int]
    refine hK _ _ _ _ ?_
    refine rz_cV (As := []) (b := a + 14) (S := []) l_Pair_138 (by decide +kernel) rfl (ps_wi14 o31).1 rfl (Nat.le_of_ble_eq_true rfl) (Nat.le_refl _) (Nat.le_refl _) (c_Word_clear (ps_wi14 o31)) (fun r G' hq => ?_)
    obtain ⟨rfl, rfl⟩ := hq
    rw [ps_wp14]
    simp only [Option.toList, List.nil_append]
    refine hend _ ?_
    simp only [ps_cl, ps_cr, c1, if_true]
    rw [← hX2, ← hX1]
    funext j
    simp only [va_up]
    by_cases q : j = 1 <;> by_cases q2 : j = 0 <;> simp [q, q2]
  refine rz_blk' [(.aload_n 0, 1, 0, 0), (.getfield 52, 3, 4, 16), (.getfield 135, 3, 0, 1), (.ifCond .le 17, 3, 0, 0), (.aload_n 0, 1, 0, 0), (.getfield 56, 3, 4, 17), (.getfield 135, 3, 0, 1), (.ifCond .le 7, 3, 0, 0), (.iconst 1, 1, 0, 0), (.goto 4, 3, 0, 0)] (by decide +kernel) (Nat.le_refl _) (Nat.le_refl _) (fun K R hK hR => ?_)
  simp only [rw_c1, ↓rx_aload_n0, ↓rx_getfield, ↓rx_goto, ↓rx_iconst, ↓rx_ifCond_le, ↓rx_nil, ↓ry_fvs, ↓ry_fvz, ↓ry_i1, ↓ry_lr0s, ↓ry_lr0z, ↓ry_obu, ↓ry_r1, ↓ps_ob, ↓ps_i1, ↓ps_n1, ↓ps_i2, ↓ps_n2, ↓ps_i3, ↓ps_n3, ↓ps_r4, ↓ps_r5, ↓ps_i6, ↓ps_n6, ↓ps_i7, ↓ps_n7, ↓ps_i8, ↓ps_n8, ↓ps_i9, ↓ps_n9, ↓ps_i10, ↓ps_n10, ↓ps_i11, ↓ps_n11, ↓rh_ob w0, ↓rh_ob w1, rz_set, rz_nol, rz_clr, List.set_cons_zero, List.set_cons_succ, rz_tr, Nat.reduceAdd, Int.reduceAdd, Int.reduceToNat, Int.reduceSub, Int.reduceNeg, Int.cast_ofNat_Int]
  rw [hp_z, nI_leI (by omega) (by omega), nI_leI (by omega) (by omega)]
  have hfalse : rz_b (ps_ap (X 0) (X 1)) = nI 0 → rz_T w (d + 1) 0 0 m_Pair_cutAlike 0 0 52 [some (.ref a), some (.int (nI k)), none] [] (ps_put G a I A J X2 P) (fun r G' => r = some (.int (rz_b (ps_ap (X 0) (X 1)))) ∧ G' = ps_put G a I A J (va_up (va_up X 0 (ps_cl (X 0) (X 1))) 1 (ps_cr (X 0) (X 1))) P) := by
    intro q
    refine rz_blk' [(.iconst 0, 1, 0, 0)] (by decide +kernel) (Nat.le_refl _) (Nat.le_refl _) (fun K R hK hR => ?_)
    simp only [rw_c0, ↓rx_iconst, ↓rx_nil, ↓ps_ob, ↓ps_i1, ↓ps_n1, ↓ps_i2, ↓ps_n2, ↓ps_i3, ↓ps_n3, ↓ps_r4, ↓ps_r5, ↓ps_i6, ↓ps_n6, ↓ps_i7, ↓ps_n7, ↓ps_i8, ↓ps_n8, ↓ps_i9, ↓ps_n9, ↓ps_i10, ↓ps_n10, ↓ps_i11, ↓ps_n11, rz_set, rz_nol, rz_clr, List.set_cons_zero, List.set_cons_succ, rz_tr, Nat.reduceAdd, Int.reduceAdd, Int.reduceToNat, Int.reduceSub, Int.reduceNeg, Int.cast_ofNat_Int]
    rw [← q]
    exact hK _ _ _ _ hmid
  refine ⟨fun c1 => hK _ _ _ _ (hfalse ?_), fun c1 => ⟨fun c2 => hK _ _ _ _ (hfalse ?_), fun c2 => ?_⟩⟩
  · rw [hap]; simp [rz_b, show (X2 0).length = 0 by omega]; rfl
  · rw [hap]; simp [rz_b, show (X2 1).length = 0 by omega]; rfl
  · have e : nI 1 = rz_b (ps_ap (X 0) (X 1)) := by
      rw [hap]
      simp only [show 0 < (X2 0).length by omega, show 0 < (X2 1).length by omega, decide_true, Bool.and_self]; rfl
    rw [e]
    exact hK _ _ _ _ hmid

set_option maxRecDepth 100000 in
set_option maxHeartbeats 4000000 in
/-- isNode(node, apart) -/
theorem c_Pair_isNode {w : rz_w} {d : Nat} {G : rz_G} {a : Nat} {I : Nat → Int32} {A : Nat → Nat → Int32} {J : Nat → Nat → Int64} {X : Nat → List Nat} {P : Nat → Nat} {i : Nat} {c ap : Bool} (hi : i < 72) (hc : A 2 i = rz_b c) (h0 : wd_ok 26 (X 0)) (h1 : wd_ok 26 (X 1)) (h2 : wd_ok 26 (X (2 + 2 * i))) (h3 : wd_ok 26 (X (2 + (2 * i + 1)))) : rz_C w (d + 1) 0 0 y_Pair_isNode m_Pair_isNode [.ref a, .int (nI i), .int (rz_b ap)] (ps_put G a I A J X P) (fun r G' => r = some (.int (if c = ap ∧ X (2 + 2 * i) = X 0 ∧ X (2 + (2 * i + 1)) = X 1 then 1 else 0)) ∧ G' = (ps_put G a I A J X P)) := by
  have k2 := ps_wi (G := G) (a := a) (I := I) (A := A) (J := J) (P := P) (j := 2 * i) (by omega) h2
  have k3 := ps_wi (G := G) (a := a) (I := I) (A := A) (J := J) (P := P) (j := 2 * i + 1) (by omega) h3
  have hb : ∀ x y : Bool, rz_b x = rz_b y ↔ x = y := by decide
  refine rz_enter' [some (.ref a), some (.int (nI i)), some (.int (rz_b ap))] (by decide +kernel) rfl rfl (Nat.le_of_ble_eq_true rfl) rfl ?_
  have hno : ¬ (c = ap ∧ X (2 + 2 * i) = X 0 ∧ X (2 + (2 * i + 1)) = X 1) → rz_T w (d + 1) 0 0 m_Pair_isNode 0 0 46 [some (.ref a), some (.int (nI i)), some (.int (rz_b ap))] [] (ps_put G a I A J X P) (fun r G' => r = some (.int (if c = ap ∧ X (2 + 2 * i) = X 0 ∧ X (2 + (2 * i + 1)) = X 1 then 1 else 0)) ∧ G' = (ps_put G a I A J X P)) := by
    intro q
    refine rz_blk' [(.iconst 0, 1, 0, 0), (.ireturn, 1, 0, 0)] (by decide +kernel) (Nat.le_refl _) (Nat.le_refl _) (fun K R hK hR => ?_)
    simp only [rw_c0, ↓rx_iconst, ↓rx_ireturn, ↓rx_nil, ↓ps_ob, ↓ps_i1, ↓ps_n1, ↓ps_i2, ↓ps_n2, ↓ps_i3, ↓ps_n3, ↓ps_r4, ↓ps_r5, ↓ps_i6, ↓ps_n6, ↓ps_i7, ↓ps_n7, ↓ps_i8, ↓ps_n8, ↓ps_i9, ↓ps_n9, ↓ps_i10, ↓ps_n10, ↓ps_i11, ↓ps_n11, rz_set, rz_nol, rz_clr, List.set_cons_zero, List.set_cons_succ, rz_tr, Nat.reduceAdd, Int.reduceAdd, Int.reduceToNat, Int.reduceSub, Int.reduceNeg, Int.cast_ofNat_Int]
    exact hR _ _ rz_nb_0 ⟨by rw [if_neg q]; rfl, rfl⟩
  refine rz_blk' [(.aload_n 0, 1, 0, 0), (.getfield 18, 3, 4, 5), (.iload_n 1, 1, 0, 0), (.baload, 1, 0, 0), (.iload_n 2, 1, 0, 0), (.if_icmp .ne 39, 3, 0, 0), (.aload_n 0, 1, 0, 0), (.getfield 24, 3, 4, 6), (.iload_n 1, 1, 0, 0), (.aaload, 1, 0, 0), (.aload_n 0, 1, 0, 0), (.getfield 52, 3, 4, 16)] (by decide +kernel) (Nat.le_refl _) (Nat.le_refl _) (fun K R hK hR => ?_)
  simp only [Nat.reduceEqDiff, false_or, or_false, or_true, reduceIte, ↓rx_aaload, ↓rx_aload_n0, ↓rx_baload, ↓rx_getfield, ↓rx_if_icmp_ne, ↓rx_iload_n1, ↓rx_iload_n2, ↓rx_nil, ↓ry_fvs, ↓ry_fvz, ↓ry_i2, ↓ry_iau, ↓ry_li0s, ↓ry_li0z, ↓ry_lr0s, ↓ry_lr0z, ↓ry_obu, ↓ry_r1, ↓ry_ri, true_and, true_or, ↓ps_ob, ↓ps_i1, ↓ps_n1, ↓ps_i2, ↓ps_n2, ↓ps_i3, ↓ps_n3, ↓ps_r4, ↓ps_r5, ↓ps_i6, ↓ps_n6, ↓ps_i7, ↓ps_n7, ↓ps_i8, ↓ps_n8, ↓ps_i9, ↓ps_n9, ↓ps_i10, ↓ps_n10, ↓ps_i11, ↓ps_n11, va_rfs, rz_set, rz_nol, rz_clr, List.set_cons_zero, List.set_cons_succ, rz_tr, Nat.reduceAdd, Int.reduceAdd, Int.reduceToNat, Int.reduceSub, Int.reduceNeg, Int.cast_ofNat_Int]
  rw [nI_clamp (by omega), hc, hb]
  refine ⟨vp_in_nI hi (by decide), fun c1 => hK _ _ _ _ (hno (fun q => c1 q.1)), fun c1 => ⟨vp_in_nI hi (by decide), hK _ _ _ _ ?_⟩⟩
  refine rz_cV (As := [.ref (a + 12)]) (b := a + (16 + 2 * (2 * i))) (S := []) l_Pair_149 (by decide +kernel) rfl k2.1 rfl (Nat.le_of_ble_eq_true rfl) (Nat.le_refl _) (Nat.le_refl _) (c_Word_isLike k2 (ps_wi12 h0)) (fun r G' hq => ?_)
  obtain ⟨rfl, rfl⟩ := hq
  simp only [Option.toList, List.cons_append, List.nil_append]
  by_cases c2 : X (2 + 2 * i) = X 0
  · rw [if_pos c2]
    refine rz_blk' [(.ifCond .eq 23, 3, 0, 0), (.aload_n 0, 1, 0, 0), (.getfield 28, 3, 4, 7), (.iload_n 1, 1, 0, 0), (.aaload, 1, 0, 0), (.aload_n 0, 1, 0, 0), (.getfield 56, 3, 4, 17)] (by decide +kernel) (Nat.le_refl _) (Nat.le_refl _) (fun K R hK hR => ?_)
    simp only [Nat.reduceEqDiff, false_or, or_false, or_true, reduceIte, ↓rx_aaload, ↓rx_aload_n0, ↓rx_getfield, ↓rx_ifCond_eq, ↓rx_iload_n1, ↓rx_nil, ↓ry_fvs, ↓ry_fvz, ↓ry_i1, ↓ry_li0s, ↓ry_li0z, ↓ry_lr0s, ↓ry_lr0z, ↓ry_obu, ↓ry_r1, ↓ry_ri, true_and, true_or, ↓ps_ob, ↓ps_i1, ↓ps_n1, ↓ps_i2, ↓ps_n2, ↓ps_i3, ↓ps_n3, ↓ps_r4, ↓ps_r5, ↓ps_i6, ↓ps_n6, ↓ps_i7, ↓ps_n7, ↓ps_i8, ↓ps_n8, ↓ps_i9, ↓ps_n9, ↓ps_i10, ↓ps_n10, ↓ps_i11, ↓ps_n11, va_rfs, rz_set, rz_nol, rz_clr, List.set_cons_zero, List.set_cons_succ, rz_tr, Nat.reduceAdd, Int.reduceAdd, Int.reduceToNat, Int.reduceSub, Int.reduceNeg, Int.cast_ofNat_Int]
    rw [nI_clamp (by omega)]
    refine ⟨fun c3 => absurd c3 (by decide), fun c3 => ⟨vp_in_nI hi (by decide), hK _ _ _ _ ?_⟩⟩
    refine rz_cV (As := [.ref (a + 14)]) (b := a + (16 + 2 * (2 * i + 1))) (S := []) l_Pair_149 (by decide +kernel) rfl k3.1 rfl (Nat.le_of_ble_eq_true rfl) (Nat.le_refl _) (Nat.le_refl _) (c_Word_isLike k3 (ps_wi14 h1)) (fun r G' hq => ?_)
    obtain ⟨rfl, rfl⟩ := hq
    simp only [Option.toList, List.cons_append, List.nil_append]
    by_cases c4 : X (2 + (2 * i + 1)) = X 1
    · rw [if_pos c4]
      refine rz_blk' [(.ifCond .eq 7, 3, 0, 0), (.iconst 1, 1, 0, 0), (.goto 4, 3, 0, 0)] (by decide +kernel) (Nat.le_refl _) (Nat.le_refl _) (fun K R hK hR => ?_)
      simp only [rw_c1, ↓rx_goto, ↓rx_iconst, ↓rx_ifCond_eq, ↓rx_nil, ↓ry_i1, ↓ps_ob, ↓ps_i1, ↓ps_n1, ↓ps_i2, ↓ps_n2, ↓ps_i3, ↓ps_n3, ↓ps_r4, ↓ps_r5, ↓ps_i6, ↓ps_n6, ↓ps_i7, ↓ps_n7, ↓ps_i8, ↓ps_n8, ↓ps_i9, ↓ps_n9, ↓ps_i10, ↓ps_n10, ↓ps_i11, ↓ps_n11, rz_set, rz_nol, rz_clr, List.set_cons_zero, List.set_cons_succ, rz_tr, Nat.reduceAdd, Int.reduceAdd, Int.reduceToNat, Int.reduceSub, Int.reduceNeg, Int.cast_ofNat_Int]
      refine ⟨fun c5 => absurd c5 (by decide), fun c5 => hK _ _ _ _ ?_⟩
      refine rz_blk' [(.ireturn, 1, 0, 0)] (by decide +kernel) (Nat.le_refl _) (Nat.le_refl _) (fun K R hK hR => ?_)
      simp only [↓rx_ireturn, ↓rx_nil, ↓ps_ob, ↓ps_i1, ↓ps_n1, ↓ps_i2, ↓ps_n2, ↓ps_i3, ↓ps_n3, ↓ps_r4, ↓ps_r5, ↓ps_i6, ↓ps_n6, ↓ps_i7, ↓ps_n7, ↓ps_i8, ↓ps_n8, ↓ps_i9, ↓ps_n9, ↓ps_i10, ↓ps_n10, ↓ps_i11, ↓ps_n11, rz_set, rz_nol, rz_clr, List.set_cons_zero, List.set_cons_succ, rz_tr, Nat.reduceAdd, Int.reduceAdd, Int.reduceToNat, Int.reduceSub, Int.reduceNeg, Int.cast_ofNat_Int]
      exact hR _ _ rz_nb_1 ⟨by rw [if_pos ⟨c1, c2, c4⟩]; rfl, rfl⟩
    · rw [if_neg c4]
      refine rz_blk' [(.ifCond .eq 7, 3, 0, 0), (.iconst 1, 1, 0, 0), (.goto 4, 3, 0, 0)] (by decide +kernel) (Nat.le_refl _) (Nat.le_refl _) (fun K R hK hR => ?_)
      simp only [rw_c1, ↓rx_goto, ↓rx_iconst, ↓rx_ifCond_eq, ↓rx_nil, ↓ry_i1, ↓ps_ob, ↓ps_i1, ↓ps_n1, ↓ps_i2, ↓ps_n2, ↓ps_i3, ↓ps_n3, ↓ps_r4, ↓ps_r5, ↓ps_i6, ↓ps_n6, ↓ps_i7, ↓ps_n7, ↓ps_i8, ↓ps_n8, ↓ps_i9, ↓ps_n9, ↓ps_i10, ↓ps_n10, ↓ps_i11, ↓ps_n11, rz_set, rz_nol, rz_clr, List.set_cons_zero, List.set_cons_succ, rz_tr, Nat.reduceAdd, Int.reduceAdd, Int.reduceToNat, Int.reduceSub, Int.reduceNeg, Int.cast_ofNat_Int]
      exact ⟨fun c5 => hK _ _ _ _ (hno (fun q => c4 q.2.2)), fun c5 => absurd trivial c5⟩
  · rw [if_neg c2]
    refine rz_blk' [(.ifCond .eq 23, 3, 0, 0), (.aload_n 0, 1, 0, 0), (.getfield 28, 3, 4, 7), (.iload_n 1, 1, 0, 0), (.aaload, 1, 0, 0), (.aload_n 0, 1, 0, 0), (.getfield 56, 3, 4, 17)] (by decide +kernel) (Nat.le_refl _) (Nat.le_refl _) (fun K R hK hR => ?_)
    simp only [Nat.reduceEqDiff, false_or, or_false, or_true, reduceIte, ↓rx_aaload, ↓rx_aload_n0, ↓rx_getfield, ↓rx_ifCond_eq, ↓rx_iload_n1, ↓rx_nil, ↓ry_fvs, ↓ry_fvz, ↓ry_i1, ↓ry_li0s, ↓ry_li0z, ↓ry_lr0s, ↓ry_lr0z, ↓ry_obu, ↓ry_r1, ↓ry_ri, true_and, true_or, ↓ps_ob, ↓ps_i1, ↓ps_n1, ↓ps_i2, ↓ps_n2, ↓ps_i3, ↓ps_n3, ↓ps_r4, ↓ps_r5, ↓ps_i6, ↓ps_n6, ↓ps_i7, ↓ps_n7, ↓ps_i8, ↓ps_n8, ↓ps_i9, ↓ps_n9, ↓ps_i10, ↓ps_n10, ↓ps_i11, ↓ps_n11, va_rfs, rz_set, rz_nol, rz_clr, List.set_cons_zero, List.set_cons_succ, rz_tr, Nat.reduceAdd, Int.reduceAdd, Int.reduceToNat, Int.reduceSub, Int.reduceNeg, Int.cast_ofNat_Int]
    exact ⟨fun c5 => hK _ _ _ _ (hno (fun q => c2 q.2.1)), fun c5 => absurd trivial c5⟩

set_option maxRecDepth 100000 in
set_option maxHeartbeats 4000000 in
/-- closeGroup(): the open group is closed, if it has nodes -/
theorem c_Pair_closeGroup {w : rz_w} {d : Nat} {G : rz_G} {a : Nat} {I : Nat → Int32} {A : Nat → Nat → Int32} {J : Nat → Nat → Int64} {X : Nat → List Nat} {P : Nat → Nat} {n g b0 : Nat} (hn : I 0 = nI n) (hn2 : n ≤ 72) (hg : I 1 = nI g) (hg2 : g ≤ 72) (hb : A 5 g = nI b0) (hb2 : b0 ≤ 72) : rz_C w d 0 0 y_Pair_closeGroup m_Pair_closeGroup [.ref a] (ps_put G a I A J X P) (fun r G' => r = none ∧ G' = if b0 < n ∧ g < 72 then ps_put G a (upd I 1 (nI (g + 1))) (va_up A 5 (upd (A 5) (g + 1) (nI n))) J X P else (ps_put G a I A J X P)) := by
  refine rz_enter' [some (.ref a)] (by decide +kernel) rfl rfl (Nat.le_of_ble_eq_true rfl) rfl ?_
  have hno : ¬ (b0 < n ∧ g < 72) → rz_T w d 0 0 m_Pair_closeGroup 0 0 48 [some (.ref a)] [] (ps_put G a I A J X P) (fun r G' => r = none ∧ G' = if b0 < n ∧ g < 72 then ps_put G a (upd I 1 (nI (g + 1))) (va_up A 5 (upd (A 5) (g + 1) (nI n))) J X P else (ps_put G a I A J X P)) := by
    intro q
    refine rz_blk' [(.return_, 1, 0, 0)] (by decide +kernel) (Nat.le_refl _) (Nat.le_refl _) (fun K R hK hR => ?_)
    simp only [↓rx_nil, ↓rx_return_, ↓ps_ob, ↓ps_i1, ↓ps_n1, ↓ps_i2, ↓ps_n2, ↓ps_i3, ↓ps_n3, ↓ps_r4, ↓ps_r5, ↓ps_i6, ↓ps_n6, ↓ps_i7, ↓ps_n7, ↓ps_i8, ↓ps_n8, ↓ps_i9, ↓ps_n9, ↓ps_i10, ↓ps_n10, ↓ps_i11, ↓ps_n11, rz_set, rz_nol, rz_clr, List.set_cons_zero, List.set_cons_succ, rz_tr, Nat.reduceAdd, Int.reduceAdd, Int.reduceToNat, Int.reduceSub, Int.reduceNeg, Int.cast_ofNat_Int]
    exact hR _ _ (rz_nb_i (by decide)) ⟨rfl, by rw [if_neg q]⟩
  refine rz_blk' [(.aload_n 0, 1, 0, 0), (.getfield 66, 3, 4, 2), (.aload_n 0, 1, 0, 0), (.getfield 37, 3, 4, 11), (.aload_n 0, 1, 0, 0), (.getfield 70, 3, 4, 10), (.iaload, 1, 0, 0), (.if_icmp .le 35, 3, 0, 0), (.aload_n 0, 1, 0, 0), (.getfield 70, 3, 4, 10), (.bipush 72, 2, 0, 0), (.if_icmp .ge 26, 3, 0, 0)] (by decide +kernel) (Nat.le_refl _) (Nat.le_refl _) (fun K R hK hR => ?_)
  simp only [rw_b72, ↓rx_aload_n0, ↓rx_bipush, ↓rx_getfield, ↓rx_iaload, ↓rx_if_icmp_ge, ↓rx_if_icmp_le, ↓rx_nil, ↓ry_fvs, ↓ry_fvz, ↓ry_i2, ↓ry_iau, ↓ry_lr0s, ↓ry_lr0z, ↓ry_obu, ↓ry_r1, ↓ry_ri, true_and, ↓ps_ob, ↓ps_i1, ↓ps_n1, ↓ps_i2, ↓ps_n2, ↓ps_i3, ↓ps_n3, ↓ps_r4, ↓ps_r5, ↓ps_i6, ↓ps_n6, ↓ps_i7, ↓ps_n7, ↓ps_i8, ↓ps_n8, ↓ps_i9, ↓ps_n9, ↓ps_i10, ↓ps_n10, ↓ps_i11, ↓ps_n11, hn, hg, rz_set, rz_nol, rz_clr, List.set_cons_zero, List.set_cons_succ, rz_tr, Nat.reduceAdd, Int.reduceAdd, Int.reduceToNat, Int.reduceSub, Int.reduceNeg, Int.cast_ofNat_Int]
  rw [nI_clamp (by omega), hb, nI_leI (by omega) (by omega), nI_leI (by omega) (by omega)]
  refine ⟨vp_in_nI (by omega) (by decide), fun c1 => hK _ _ _ _ (hno (by omega)), fun c1 => ⟨fun c2 => hK _ _ _ _ (hno (by omega)), fun c2 => hK _ _ _ _ ?_⟩⟩
  refine rz_blk' [(.aload_n 0, 1, 0, 0), (.dup, 1, 0, 0), (.getfield 70, 3, 4, 10), (.iconst 1, 1, 0, 0), (.iadd, 1, 0, 0), (.putfield 70, 3, 4, 10)] (by decide +kernel) (Nat.le_refl _) (Nat.le_refl _) (fun K R hK hR => ?_)
  simp only [List.length_cons, List.length_nil, Nat.reduceLT, rf_4_10, rw_c1, ↓rx_aload_n0, ↓rx_dup, ↓rx_getfield, ↓rx_iadd, ↓rx_iconst, ↓rx_nil, ↓rx_putfield, ↓ry_fvs, ↓ry_fvz, ↓ry_i2, ↓ry_lr0s, ↓ry_lr0z, ↓ry_obu, ↓ry_r1, ↓ry_v1i, ↓ry_v1r, ↓ry_vr, true_and, ↓ps_ob, ↓ps_i1, ↓ps_n1, ↓ps_i2, ↓ps_n2, ↓ps_i3, ↓ps_n3, ↓ps_r4, ↓ps_r5, ↓ps_i6, ↓ps_n6, ↓ps_i7, ↓ps_n7, ↓ps_i8, ↓ps_n8, ↓ps_i9, ↓ps_n9, ↓ps_i10, ↓ps_n10, ↓ps_i11, ↓ps_n11, ps_u10, hg, nI_add, rz_set, rz_nol, rz_clr, List.set_cons_zero, List.set_cons_succ, rz_tr, Nat.reduceAdd, Int.reduceAdd, Int.reduceToNat, Int.reduceSub, Int.reduceNeg, Int.cast_ofNat_Int]
  refine hK _ _ _ _ ?_
  have e1 : upd I 1 (nI (g + 1)) 1 = nI (g + 1) := pk_us
  have e0 : upd I 1 (nI (g + 1)) 0 = nI n := by rw [pk_un (by decide)]; exact hn
  refine rz_blk' [(.aload_n 0, 1, 0, 0), (.getfield 37, 3, 4, 11), (.aload_n 0, 1, 0, 0), (.getfield 70, 3, 4, 10), (.aload_n 0, 1, 0, 0), (.getfield 66, 3, 4, 2), (.iastore, 1, 0, 0), (.return_, 1, 0, 0)] (by decide +kernel) (Nat.le_refl _) (Nat.le_refl _) (fun K R hK hR => ?_)
  simp only [↓rx_aload_n0, ↓rx_getfield, ↓rx_iastore, ↓rx_nil, ↓rx_return_, ↓ry_fvs, ↓ry_fvz, ↓ry_iau, ↓ry_lr0s, ↓ry_lr0z, ↓ry_obu, ↓ry_r1, ↓ry_rii, true_and, ↓ps_ob, ↓ps_i1, ↓ps_n1, ↓ps_i2, ↓ps_n2, ↓ps_i3, ↓ps_n3, ↓ps_r4, ↓ps_r5, ↓ps_i6, ↓ps_n6, ↓ps_i7, ↓ps_n7, ↓ps_i8, ↓ps_n8, ↓ps_i9, ↓ps_n9, ↓ps_i10, ↓ps_n10, ↓ps_i11, ↓ps_n11, ps_a8, e1, e0, rz_set, rz_nol, rz_clr, List.set_cons_zero, List.set_cons_succ, rz_tr, Nat.reduceAdd, Int.reduceAdd, Int.reduceToNat, Int.reduceSub, Int.reduceNeg, Int.cast_ofNat_Int]
  rw [nI_clamp (by omega)]
  exact ⟨vp_in_nI (by omega) (by decide), hR _ _ (rz_nb_i (by decide)) ⟨rfl, by rw [if_pos (by omega)]⟩⟩

set_option maxRecDepth 100000 in
set_option maxHeartbeats 4000000 in
/-- begin(one, two) -/
theorem c_Pair_begin {w : rz_w} {d : Nat} {G : rz_G} {a : Nat} {I : Nat → Int32} {A : Nat → Nat → Int32} {J : Nat → Nat → Int64} {X : Nat → List Nat} {P : Nat → Nat} (ml mr : Nat) : rz_C w (d + 1) 0 0 y_Pair_begin m_Pair_begin [.ref a, .ref ml, .ref mr] (ps_put G a I A J X P) (fun r G' => r = none ∧ ∃ I' A' P', G' = ps_put G a I' A' J X P' ∧ I' 0 = nI 0 ∧ I' 1 = nI 0 ∧ I' 2 = -1 ∧ A' 8 0 = nI 0 ∧ A' 5 0 = nI 0 ∧ (∀ i, i < 36 → A' 3 i = nI 0) ∧ P' 0 = ml ∧ P' 1 = mr) := by
  refine rz_enter' [some (.ref a), some (.ref ml), some (.ref mr)] (by decide +kernel) rfl rfl (Nat.le_of_ble_eq_true rfl) rfl ?_
  refine rz_blk' [(.aload_n 0, 1, 0, 0), (.aload_n 1, 1, 0, 0), (.putfield 59, 3, 4, 0)] (by decide +kernel) (Nat.le_refl _) (Nat.le_refl _) (fun K R hK hR => ?_)
  simp only [List.length_cons, List.length_nil, Nat.reduceLT, rf_4_0, ↓rx_aload_n0, ↓rx_aload_n1, ↓rx_nil, ↓rx_putfield, ↓ry_lr0s, ↓ry_lr0z, ↓ry_obu, ↓ry_vr, true_and, ↓ps_ob, ↓ps_i1, ↓ps_n1, ↓ps_i2, ↓ps_n2, ↓ps_i3, ↓ps_n3, ↓ps_r4, ↓ps_r5, ↓ps_i6, ↓ps_n6, ↓ps_i7, ↓ps_n7, ↓ps_i8, ↓ps_n8, ↓ps_i9, ↓ps_n9, ↓ps_i10, ↓ps_n10, ↓ps_i11, ↓ps_n11, ps_u0, rz_set, rz_nol, rz_clr, List.set_cons_zero, List.set_cons_succ, rz_tr, Nat.reduceAdd, Int.reduceAdd, Int.reduceToNat, Int.reduceSub, Int.reduceNeg, Int.cast_ofNat_Int]
  refine hK _ _ _ _ ?_
  refine rz_blk' [(.aload_n 0, 1, 0, 0), (.aload_n 2, 1, 0, 0), (.putfield 63, 3, 4, 1)] (by decide +kernel) (Nat.le_refl _) (Nat.le_refl _) (fun K R hK hR => ?_)
  simp only [List.length_cons, List.length_nil, Nat.reduceLT, rf_4_1, ↓rx_aload_n0, ↓rx_aload_n2, ↓rx_nil, ↓rx_putfield, ↓ry_lr0s, ↓ry_lr0z, ↓ry_obu, ↓ry_vr, true_and, ↓ps_ob, ↓ps_i1, ↓ps_n1, ↓ps_i2, ↓ps_n2, ↓ps_i3, ↓ps_n3, ↓ps_r4, ↓ps_r5, ↓ps_i6, ↓ps_n6, ↓ps_i7, ↓ps_n7, ↓ps_i8, ↓ps_n8, ↓ps_i9, ↓ps_n9, ↓ps_i10, ↓ps_n10, ↓ps_i11, ↓ps_n11, ps_u1, rz_set, rz_nol, rz_clr, List.set_cons_zero, List.set_cons_succ, rz_tr, Nat.reduceAdd, Int.reduceAdd, Int.reduceToNat, Int.reduceSub, Int.reduceNeg, Int.cast_ofNat_Int]
  refine hK _ _ _ _ ?_
  refine rz_blk' [(.aload_n 0, 1, 0, 0), (.iconst 0, 1, 0, 0), (.putfield 66, 3, 4, 2)] (by decide +kernel) (Nat.le_refl _) (Nat.le_refl _) (fun K R hK hR => ?_)
  simp only [List.length_cons, List.length_nil, Nat.reduceLT, rf_4_2, rw_c0, ↓rx_aload_n0, ↓rx_iconst, ↓rx_nil, ↓rx_putfield, ↓ry_lr0s, ↓ry_lr0z, ↓ry_obu, ↓ry_vr, true_and, ↓ps_ob, ↓ps_i1, ↓ps_n1, ↓ps_i2, ↓ps_n2, ↓ps_i3, ↓ps_n3, ↓ps_r4, ↓ps_r5, ↓ps_i6, ↓ps_n6, ↓ps_i7, ↓ps_n7, ↓ps_i8, ↓ps_n8, ↓ps_i9, ↓ps_n9, ↓ps_i10, ↓ps_n10, ↓ps_i11, ↓ps_n11, ps_u2, rz_set, rz_nol, rz_clr, List.set_cons_zero, List.set_cons_succ, rz_tr, Nat.reduceAdd, Int.reduceAdd, Int.reduceToNat, Int.reduceSub, Int.reduceNeg, Int.cast_ofNat_Int]
  refine hK _ _ _ _ ?_
  refine rz_blk' [(.aload_n 0, 1, 0, 0), (.iconst 0, 1, 0, 0), (.putfield 70, 3, 4, 10)] (by decide +kernel) (Nat.le_refl _) (Nat.le_refl _) (fun K R hK hR => ?_)
  simp only [List.length_cons, List.length_nil, Nat.reduceLT, rf_4_10, rw_c0, ↓rx_aload_n0, ↓rx_iconst, ↓rx_nil, ↓rx_putfield, ↓ry_lr0s, ↓ry_lr0z, ↓ry_obu, ↓ry_vr, true_and, ↓ps_ob, ↓ps_i1, ↓ps_n1, ↓ps_i2, ↓ps_n2, ↓ps_i3, ↓ps_n3, ↓ps_r4, ↓ps_r5, ↓ps_i6, ↓ps_n6, ↓ps_i7, ↓ps_n7, ↓ps_i8, ↓ps_n8, ↓ps_i9, ↓ps_n9, ↓ps_i10, ↓ps_n10, ↓ps_i11, ↓ps_n11, ps_u10, rz_set, rz_nol, rz_clr, List.set_cons_zero, List.set_cons_succ, rz_tr, Nat.reduceAdd, Int.reduceAdd, Int.reduceToNat, Int.reduceSub, Int.reduceNeg, Int.cast_ofNat_Int]
  refine hK _ _ _ _ ?_
  refine rz_blk' [(.aload_n 0, 1, 0, 0), (.getfield 46, 3, 4, 14), (.iconst 0, 1, 0, 0), (.iconst 0, 1, 0, 0), (.iastore, 1, 0, 0)] (by decide +kernel) (Nat.le_refl _) (Nat.le_refl _) (fun K R hK hR => ?_)
  simp only [rw_c0, ↓rx_aload_n0, ↓rx_getfield, ↓rx_iastore, ↓rx_iconst, ↓rx_nil, ↓ry_fvs, ↓ry_fvz, ↓ry_iau, ↓ry_lr0s, ↓ry_lr0z, ↓ry_obu, ↓ry_r1, ↓ry_rii, true_and, ↓ps_ob, ↓ps_i1, ↓ps_n1, ↓ps_i2, ↓ps_n2, ↓ps_i3, ↓ps_n3, ↓ps_r4, ↓ps_r5, ↓ps_i6, ↓ps_n6, ↓ps_i7, ↓ps_n7, ↓ps_i8, ↓ps_n8, ↓ps_i9, ↓ps_n9, ↓ps_i10, ↓ps_n10, ↓ps_i11, ↓ps_n11, ps_a11, rz_set, rz_nol, rz_clr, List.set_cons_zero, List.set_cons_succ, rz_tr, Nat.reduceAdd, Int.reduceAdd, Int.reduceToNat, Int.reduceSub, Int.reduceNeg, Int.cast_ofNat_Int]
  refine ⟨vp_in_nI (by decide) (by decide), hK _ _ _ _ ?_⟩
  refine rz_blk' [(.aload_n 0, 1, 0, 0), (.getfield 37, 3, 4, 11), (.iconst 0, 1, 0, 0), (.iconst 0, 1, 0, 0), (.iastore, 1, 0, 0)] (by decide +kernel) (Nat.le_refl _) (Nat.le_refl _) (fun K R hK hR => ?_)
  simp only [rw_c0, ↓rx_aload_n0, ↓rx_getfield, ↓rx_iastore, ↓rx_iconst, ↓rx_nil, ↓ry_fvs, ↓ry_fvz, ↓ry_iau, ↓ry_lr0s, ↓ry_lr0z, ↓ry_obu, ↓ry_r1, ↓ry_rii, true_and, ↓ps_ob, ↓ps_i1, ↓ps_n1, ↓ps_i2, ↓ps_n2, ↓ps_i3, ↓ps_n3, ↓ps_r4, ↓ps_r5, ↓ps_i6, ↓ps_n6, ↓ps_i7, ↓ps_n7, ↓ps_i8, ↓ps_n8, ↓ps_i9, ↓ps_n9, ↓ps_i10, ↓ps_n10, ↓ps_i11, ↓ps_n11, ps_a8, rz_set, rz_nol, rz_clr, List.set_cons_zero, List.set_cons_succ, rz_tr, Nat.reduceAdd, Int.reduceAdd, Int.reduceToNat, Int.reduceSub, Int.reduceNeg, Int.cast_ofNat_Int]
  refine ⟨vp_in_nI (by decide) (by decide), hK _ _ _ _ ?_⟩
  refine rz_blk' [(.aload_n 0, 1, 0, 0), (.iconst (-1), 1, 0, 0), (.putfield 73, 3, 4, 15)] (by decide +kernel) (Nat.le_refl _) (Nat.le_refl _) (fun K R hK hR => ?_)
  simp only [List.length_cons, List.length_nil, Nat.reduceLT, rf_4_15, rw_cm1, ↓rx_aload_n0, ↓rx_iconst, ↓rx_nil, ↓rx_putfield, ↓ry_lr0s, ↓ry_lr0z, ↓ry_obu, ↓ry_vr, true_and, ↓ps_ob, ↓ps_i1, ↓ps_n1, ↓ps_i2, ↓ps_n2, ↓ps_i3, ↓ps_n3, ↓ps_r4, ↓ps_r5, ↓ps_i6, ↓ps_n6, ↓ps_i7, ↓ps_n7, ↓ps_i8, ↓ps_n8, ↓ps_i9, ↓ps_n9, ↓ps_i10, ↓ps_n10, ↓ps_i11, ↓ps_n11, ps_u15, rz_set, rz_nol, rz_clr, List.set_cons_zero, List.set_cons_succ, rz_tr, Nat.reduceAdd, Int.reduceAdd, Int.reduceToNat, Int.reduceSub, Int.reduceNeg, Int.cast_ofNat_Int]
  refine hK _ _ _ _ ?_
  refine rz_blk' [(.aload_n 0, 1, 0, 0), (.getfield 31, 3, 4, 8), (.iconst 0, 1, 0, 0)] (by decide +kernel) (Nat.le_refl _) (Nat.le_refl _) (fun K R hK hR => ?_)
  simp only [rw_c0, ↓rx_aload_n0, ↓rx_getfield, ↓rx_iconst, ↓rx_nil, ↓ry_fvs, ↓ry_fvz, ↓ry_lr0s, ↓ry_lr0z, ↓ry_obu, ↓ry_r1, ↓ps_ob, ↓ps_i1, ↓ps_n1, ↓ps_i2, ↓ps_n2, ↓ps_i3, ↓ps_n3, ↓ps_r4, ↓ps_r5, ↓ps_i6, ↓ps_n6, ↓ps_i7, ↓ps_n7, ↓ps_i8, ↓ps_n8, ↓ps_i9, ↓ps_n9, ↓ps_i10, ↓ps_n10, ↓ps_i11, ↓ps_n11, rz_set, rz_nol, rz_clr, List.set_cons_zero, List.set_cons_succ, rz_tr, Nat.reduceAdd, Int.reduceAdd, Int.reduceToNat, Int.reduceSub, Int.reduceNeg, Int.cast_ofNat_Int]
  refine hK _ _ _ _ ?_
  have e0 : (nI 0).toNatClampNeg = 0 := nI_clamp (by decide)
  rw [e0]
  refine rz_cS (As := [.ref (a + 6), .int (nI 0)]) (S := []) l_Pair_76 (by decide +kernel) rfl (Nat.le_of_ble_eq_true rfl) (Nat.le_refl _) (Nat.le_refl _) (c_Arr_fill (ps_at (o := 6) (by decide)) (by decide)) (fun r G' hq => ?_)
  obtain ⟨rfl, rfl⟩ := hq
  rw [ps_a6]
  simp only [Option.toList, List.nil_append]
  refine rz_blk' [(.return_, 1, 0, 0)] (by decide +kernel) (Nat.le_refl _) (Nat.le_refl _) (fun K R hK hR => ?_)
  simp only [↓rx_nil, ↓rx_return_, ↓ps_ob, ↓ps_i1, ↓ps_n1, ↓ps_i2, ↓ps_n2, ↓ps_i3, ↓ps_n3, ↓ps_r4, ↓ps_r5, ↓ps_i6, ↓ps_n6, ↓ps_i7, ↓ps_n7, ↓ps_i8, ↓ps_n8, ↓ps_i9, ↓ps_n9, ↓ps_i10, ↓ps_n10, ↓ps_i11, ↓ps_n11, rz_set, rz_nol, rz_clr, List.set_cons_zero, List.set_cons_succ, rz_tr, Nat.reduceAdd, Int.reduceAdd, Int.reduceToNat, Int.reduceSub, Int.reduceNeg, Int.cast_ofNat_Int]
  refine hR _ _ (rz_nb_i (by decide)) ⟨rfl, _, _, _, rfl, ?_, ?_, ?_, ?_, ?_, ?_, ?_, ?_⟩
  · simp [upd]
  · simp [upd]
  · simp [upd]
  · simp [va_up, upd]
  · simp [va_up, upd]
  · intro i hi; simp [va_up, hi]
  · simp [va_up]
  · simp [va_up]

