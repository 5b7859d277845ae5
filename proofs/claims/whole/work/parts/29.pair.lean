/-! WriterDesk$PairSearch: tellWord -/
theorem ps_swp {G : rz_G} {a : Nat} {I : Nat → Int32} {A : Nat → Nat → Int32} {J : Nat → Nat → Int64} {X : Nat → List Nat} {P : Nat → Nat} {wo co : Nat} {xs : List Nat} (h : wo + 1 < a ∨ a + 304 ≤ wo) : wd_put (ps_put G a I A J X P) wo co xs = ps_put (wd_put G wo co xs) a I A J X P := by
  funext x
  by_cases q : a ≤ x ∧ x < a + 304
  · rw [wd_put_n (by omega) (by omega)]; simp only [ps_put]; rw [if_pos q, if_pos q]
  · simp only [ps_put, if_neg q]
    by_cases q1 : x = wo
    · subst q1; simp [wd_put, rz_up]
    · by_cases q2 : x = wo + 1
      · subst q2; simp [wd_put, rz_up]
      · rw [wd_put_n q1 q2, wd_put_n q1 q2]; simp only [ps_put, if_neg q]
def ps_wf (g : Nat) (S : ps_sT) : List Nat := (ps_gn S.1 g).1
section PSR
variable {w : rz_w} {d : Nat} {G : rz_G} {a : Nat} {I : Nat → Int32} {A : Nat → Nat → Int32} {J : Nat → Nat → Int64} {X : Nat → List Nat} {P : Nat → Nat} {Q : Option Value → rz_G → Prop} {Ok : Nat → ps_nd → Prop} {A5 : Nat → Nat → Int32} {S : ps_sT}
set_option maxRecDepth 100000 in
set_option maxHeartbeats 4000000 in
theorem ps_tw_l (hS : ∀ k, 5 ≤ k → A k = A5 k) (hG : ps_gi Ok A5 S) (h72 : S.1.length ≤ 72) {wo co : Nat} {xs : List Nat} (ho : wd_is G wo co xs) (hco : 72 ≤ 16 * co) (ao : wo + 1 < a ∨ a + 304 ≤ wo) {W : List Nat} (hW : W.length ≤ 72) (hW3 : ∀ x ∈ W, x < 3) {len : Nat} :
    ∀ (k i g : Nat) (y : List Nat × List ps_nd), W.length + 1 ≤ i + k → i ≤ W.length → S.1[g]? = some y → y.1 ++ W.drop (W.length - i) = W →
      (∀ z, rz_T w (d + 1) 0 0 m_Pair_tellWord 0 0 61 z [] (ps_put (wd_put G wo co W) a I A J X P) Q) →
      rz_T w (d + 1) 0 0 m_Pair_tellWord 0 0 31 [some (.ref a), some (.ref wo), some (.int (nI g)), some (.int (nI len)), some (.int (nI (W.length - i) - 1))] [] (ps_put (wd_put G wo co (List.replicate (W.length - i) 0 ++ W.drop (W.length - i))) a I A J X P) Q := by
  intro k
  induction k with
  | zero => intro i g y q1 q2; omega
  | succ k ih =>
    intro i g y hk hi hy hw hc
    obtain ⟨p1, p2, p3, p4, p5, p6, p7⟩ := hG.2.2.2.1 g y hy
    have hgl := (List.getElem?_eq_some_iff.mp hy).1
    have hyl : y.1.length = W.length - i := by
      have := congrArg List.length hw
      simp at this; omega
    by_cases c : W.length - i = 0
    · rw [c] at hyl hw ⊢
      refine rz_blk' [(.iload 4, 2, 0, 0), (.ifCond .lt 28, 3, 0, 0)] (by decide +kernel) (Nat.le_refl _) (Nat.le_refl _) (fun K R hK hR => ?_)
      simp only [↓rx_ifCond_lt, ↓rx_iload, ↓rx_nil, ↓ry_i1, ↓ry_li0s, ↓ry_li0z, ↓ps_ob, ↓ps_i1, ↓ps_n1, ↓ps_i2, ↓ps_n2, ↓ps_i3, ↓ps_n3, ↓ps_r4, ↓ps_r5, ↓ps_i6, ↓ps_n6, ↓ps_i7, ↓ps_n7, ↓ps_i8, ↓ps_n8, ↓ps_i9, ↓ps_n9, ↓ps_i10, ↓ps_n10, ↓ps_i11, ↓ps_n11, rz_set, rz_nol, rz_clr, List.set_cons_zero, List.set_cons_succ, rz_tr, Nat.reduceAdd, Int.reduceAdd, Int.reduceToNat, Int.reduceSub, Int.reduceNeg, Int.cast_ofNat_Int]
      refine ⟨fun q => hK _ _ _ _ ?_, fun q => absurd (show nI 0 - 1 < 0 by decide) q⟩
      simp only [List.replicate_zero, List.nil_append, List.drop_zero]
      exact hc _
    · obtain ⟨j, hj⟩ : ∃ j, W.length - i = j + 1 := ⟨W.length - i - 1, by omega⟩
      rw [hj] at hyl hw ⊢
      have ej : nI (j + 1) - 1 = nI j := by rw [← nI_add]; exact Int32.add_sub_cancel _ _
      rw [ej]
      rcases p7 with p7 | ⟨b', l, y', r1, r2, r3, r4, r5, r6⟩
      · rw [p7.2] at hyl; simp at hyl
      have hyl' : y'.1.length = j := by rw [r4] at hyl; simpa using hyl
      have a7 : A 7 g = nI l := by rw [hS 7 (by decide)]; exact r6
      have a6 : A 6 g = nI b' := by rw [hS 6 (by decide)]; exact r5
      have hok0 : wd_ok co (List.replicate (j + 1) 0 ++ W.drop (j + 1)) := by
        refine ⟨by simp; omega, fun x hx => ?_, ho.2.2.2.2⟩
        rcases List.mem_append.mp hx with q | q
        · rw [List.eq_of_mem_replicate q]; decide
        · have := hW3 x (List.mem_of_mem_drop q); omega
      have hwi : wd_is (ps_put (wd_put G wo co (List.replicate (j + 1) 0 ++ W.drop (j + 1))) a I A J X P) wo co (List.replicate (j + 1) 0 ++ W.drop (j + 1)) := wd_is_keep (wd_put_is hok0) (ps_out (by omega)) (ps_out (by omega))
      refine rz_blk' [(.iload 4, 2, 0, 0), (.ifCond .lt 28, 3, 0, 0), (.aload_n 1, 1, 0, 0), (.iload 4, 2, 0, 0), (.aload_n 0, 1, 0, 0), (.getfield 43, 3, 4, 13), (.iload_n 2, 1, 0, 0), (.iaload, 1, 0, 0)] (by decide +kernel) (Nat.le_refl _) (Nat.le_refl _) (fun K R hK hR => ?_)
      simp only [↓rx_aload_n0, ↓rx_aload_n1, ↓rx_getfield, ↓rx_iaload, ↓rx_ifCond_lt, ↓rx_iload, ↓rx_iload_n2, ↓rx_nil, ↓ry_fvs, ↓ry_fvz, ↓ry_i1, ↓ry_iau, ↓ry_li0s, ↓ry_li0z, ↓ry_lr0s, ↓ry_lr0z, ↓ry_obu, ↓ry_r1, ↓ry_ri, true_and, ↓ps_ob, ↓ps_i1, ↓ps_n1, ↓ps_i2, ↓ps_n2, ↓ps_i3, ↓ps_n3, ↓ps_r4, ↓ps_r5, ↓ps_i6, ↓ps_n6, ↓ps_i7, ↓ps_n7, ↓ps_i8, ↓ps_n8, ↓ps_i9, ↓ps_n9, ↓ps_i10, ↓ps_n10, ↓ps_i11, ↓ps_n11, rz_set, rz_nol, rz_clr, List.set_cons_zero, List.set_cons_succ, rz_tr, Nat.reduceAdd, Int.reduceAdd, Int.reduceToNat, Int.reduceSub, Int.reduceNeg, Int.cast_ofNat_Int]
      have nz : ¬ (nI j < 0) := nI_pos (by omega)
      refine ⟨fun q => absurd q nz, fun q => ?_⟩
      rw [nI_clamp (by omega), a7]
      refine ⟨vp_in_nI (by omega) (by decide), hK _ _ _ _ ?_⟩
      refine rz_cV (As := [.int (nI j), .int (nI l)]) (b := wo) (S := []) l_Pair_104 (by decide +kernel) rfl hwi.1 rfl (Nat.le_of_ble_eq_true rfl) (Nat.le_refl _) (Nat.le_refl _) (c_Word_put hwi (by simp; omega) (by omega)) (fun r G' hr => ?_)
      obtain ⟨rfl, rfl⟩ := hr
      simp only [Option.toList, List.nil_append]
      have hdj : W.drop j = l :: W.drop (j + 1) := by
        have hjw : W[j]? = some l := by
          rw [← hw, r4]
          rw [List.getElem?_append_left (by simp; omega), List.getElem?_append_right (by omega), hyl']
          simp
        have hjl : j < W.length := by omega
        rw [List.drop_eq_getElem_cons hjl]
        congr 1
        rw [List.getElem?_eq_getElem hjl] at hjw
        exact Option.some.inj hjw
      have hset : (List.replicate (j + 1) 0 ++ W.drop (j + 1)).set j l = List.replicate j 0 ++ W.drop j := by
        rw [hdj, List.replicate_succ', List.append_assoc, List.set_append_right _ _ (by simp)]
        simp
      rw [ps_swp ao, wd_put_put, hset]
      refine rz_blk' [(.aload_n 0, 1, 0, 0), (.getfield 40, 3, 4, 12), (.iload_n 2, 1, 0, 0), (.iaload, 1, 0, 0), (.istore_n 2, 1, 0, 0)] (by decide +kernel) (Nat.le_refl _) (Nat.le_refl _) (fun K R hK hR => ?_)
      simp only [↓rx_aload_n0, ↓rx_getfield, ↓rx_iaload, ↓rx_iload_n2, ↓rx_istore_n2, ↓rx_nil, ↓ry_fvs, ↓ry_fvz, ↓ry_i1, ↓ry_iau, ↓ry_li0s, ↓ry_li0z, ↓ry_lr0s, ↓ry_lr0z, ↓ry_obu, ↓ry_r1, ↓ry_ri, true_and, ↓ps_ob, ↓ps_i1, ↓ps_n1, ↓ps_i2, ↓ps_n2, ↓ps_i3, ↓ps_n3, ↓ps_r4, ↓ps_r5, ↓ps_i6, ↓ps_n6, ↓ps_i7, ↓ps_n7, ↓ps_i8, ↓ps_n8, ↓ps_i9, ↓ps_n9, ↓ps_i10, ↓ps_n10, ↓ps_i11, ↓ps_n11, rz_set, rz_nol, rz_clr, List.set_cons_zero, List.set_cons_succ, rz_tr, Nat.reduceAdd, Int.reduceAdd, Int.reduceToNat, Int.reduceSub, Int.reduceNeg, Int.cast_ofNat_Int]
      rw [nI_clamp (by omega), a6]
      refine ⟨vp_in_nI (by omega) (by decide), hK _ _ _ _ ?_⟩
      refine rz_blk' [(.iinc 4 (-1), 3, 0, 0), (.goto (-27), 3, 0, 0)] (by decide +kernel) (Nat.le_refl _) (Nat.le_refl _) (fun K R hK hR => ?_)
      simp only [rw_cm1, ↓rx_goto, ↓rx_iinc, ↓rx_nil, ↓ry_li0s, ↓ry_li0z, ↓ps_ob, ↓ps_i1, ↓ps_n1, ↓ps_i2, ↓ps_n2, ↓ps_i3, ↓ps_n3, ↓ps_r4, ↓ps_r5, ↓ps_i6, ↓ps_n6, ↓ps_i7, ↓ps_n7, ↓ps_i8, ↓ps_n8, ↓ps_i9, ↓ps_n9, ↓ps_i10, ↓ps_n10, ↓ps_i11, ↓ps_n11, rz_set, rz_nol, rz_clr, List.set_cons_zero, List.set_cons_succ, rz_tr, Nat.reduceAdd, Int.reduceAdd, Int.reduceToNat, Int.reduceSub, Int.reduceNeg, Int.cast_ofNat_Int]
      refine hK _ _ _ _ ?_
      have ei : W.length - (i + 1) = j := by omega
      have := ih (i + 1) b' y' (by omega) (by omega) r3 (by
        rw [ei, hdj]
        rw [r4, List.append_assoc] at hw
        exact hw) hc
      rw [ei] at this
      rw [← Int32.sub_eq_add_neg]
      exact this
end PSR

set_option maxRecDepth 100000 in
set_option maxHeartbeats 4000000 in
/-- tellWord(into) -/
theorem c_Pair_tellWord {w : rz_w} {d : Nat} {G : rz_G} {a : Nat} {I : Nat → Int32} {A : Nat → Nat → Int32} {J : Nat → Nat → Int64} {X : Nat → List Nat} {P : Nat → Nat} {Ok : Nat → ps_nd → Prop} {A5 : Nat → Nat → Int32} {S : ps_sT} {g wo co : Nat} {xs : List Nat} (hS : ps_ss I A X S.2.1 S.2.2 S.1.length A5) (hG : ps_gi Ok A5 S) (hf : S.2.2 = some g) (ho : wd_is G wo co xs) (hco : 72 ≤ 16 * co) (ao : wo + 1 < a ∨ a + 304 ≤ wo) :
    rz_C w (d + 2) 0 0 y_Pair_tellWord m_Pair_tellWord [.ref a, .ref wo] (ps_put G a I A J X P) (fun r G' => r = none ∧ G' = ps_put (wd_put G wo co (ps_wf g S)) a I A J X P ∧ (ps_wf g S).length ≤ 72 ∧ ∀ x ∈ ps_wf g S, x < 3) := by
  obtain ⟨s1, s2, s3, s4, s5, s6⟩ := id hS
  have hgl := hG.2.2.2.2 g hf
  obtain ⟨y, hy⟩ : ∃ y, S.1[g]? = some y := ⟨_, List.getElem?_eq_getElem hgl⟩
  obtain ⟨p1, p2, p3, p4, p5, p6, p7⟩ := hG.2.2.2.1 g y hy
  have hw : ps_wf g S = y.1 := by simp [ps_wf, ps_gn, hy]
  have h3 : ∀ (k i : Nat) (x : List Nat × List ps_nd), i < k → S.1[i]? = some x → ∀ z ∈ x.1, z < 3 := by
    intro k
    induction k with
    | zero => intro i x hi; omega
    | succ k ih =>
      intro i x hi hx z hz
      rcases (hG.2.2.2.1 i x hx).2.2.2.2.2.2 with q | ⟨b', l, y', r1, r2, r3, r4, -⟩
      · rw [q.2] at hz; simp at hz
      · rw [r4] at hz
        rcases List.mem_append.mp hz with q | q
        · exact ih b' y' (by omega) r3 z q
        · simp at q; omega
  rw [hw]
  have hy3 := h3 (g + 1) g y (by omega) hy
  have a8 : A 8 g = nI y.1.length := by rw [s6 8 (by decide)]; exact p2
  have e2 : I 2 = nI g := by rw [s4, hf]; rfl
  have hwi : wd_is (ps_put G a I A J X P) wo co xs := wd_is_keep ho (ps_out (by omega)) (ps_out (by omega))
  refine rz_enter' [some (.ref a), some (.ref wo), none, none, none] (by decide +kernel) rfl rfl (Nat.le_of_ble_eq_true rfl) rfl ?_
  refine rz_blk' [(.aload_n 0, 1, 0, 0), (.getfield 73, 3, 4, 15), (.istore_n 2, 1, 0, 0)] (by decide +kernel) (Nat.le_refl _) (Nat.le_refl _) (fun K R hK hR => ?_)
  simp only [↓rx_aload_n0, ↓rx_getfield, ↓rx_istore_n2, ↓rx_nil, ↓ry_fvs, ↓ry_fvz, ↓ry_i1, ↓ry_lr0s, ↓ry_lr0z, ↓ry_obu, ↓ry_r1, ↓ps_ob, ↓ps_i1, ↓ps_n1, ↓ps_i2, ↓ps_n2, ↓ps_i3, ↓ps_n3, ↓ps_r4, ↓ps_r5, ↓ps_i6, ↓ps_n6, ↓ps_i7, ↓ps_n7, ↓ps_i8, ↓ps_n8, ↓ps_i9, ↓ps_n9, ↓ps_i10, ↓ps_n10, ↓ps_i11, ↓ps_n11, e2, rz_set, rz_nol, rz_clr, List.set_cons_zero, List.set_cons_succ, rz_tr, Nat.reduceAdd, Int.reduceAdd, Int.reduceToNat, Int.reduceSub, Int.reduceNeg, Int.cast_ofNat_Int]
  refine hK _ _ _ _ ?_
  refine rz_blk' [(.iload_n 2, 1, 0, 0), (.iconst (-1), 1, 0, 0), (.if_icmp .ne 7, 3, 0, 0), (.iconst 0, 1, 0, 0), (.goto 9, 3, 0, 0), (.aload_n 0, 1, 0, 0), (.getfield 46, 3, 4, 14), (.iload_n 2, 1, 0, 0), (.iaload, 1, 0, 0)] (by decide +kernel) (Nat.le_refl _) (Nat.le_refl _) (fun K R hK hR => ?_)
  simp only [rw_c0, rw_cm1, ↓rx_aload_n0, ↓rx_getfield, ↓rx_goto, ↓rx_iaload, ↓rx_iconst, ↓rx_if_icmp_ne, ↓rx_iload_n2, ↓rx_nil, ↓ry_fvs, ↓ry_fvz, ↓ry_i2, ↓ry_iau, ↓ry_li0s, ↓ry_li0z, ↓ry_lr0s, ↓ry_lr0z, ↓ry_obu, ↓ry_r1, ↓ry_ri, true_and, ↓ps_ob, ↓ps_i1, ↓ps_n1, ↓ps_i2, ↓ps_n2, ↓ps_i3, ↓ps_n3, ↓ps_r4, ↓ps_r5, ↓ps_i6, ↓ps_n6, ↓ps_i7, ↓ps_n7, ↓ps_i8, ↓ps_n8, ↓ps_i9, ↓ps_n9, ↓ps_i10, ↓ps_n10, ↓ps_i11, ↓ps_n11, rz_set, rz_nol, rz_clr, List.set_cons_zero, List.set_cons_succ, rz_tr, Nat.reduceAdd, Int.reduceAdd, Int.reduceToNat, Int.reduceSub, Int.reduceNeg, Int.cast_ofNat_Int]
  have ne : ¬ (nI g = -1) := by
    intro q
    have := nI_pos (n := g) (by omega)
    rw [q] at this
    exact this (by decide)
  refine ⟨fun q => hK _ _ _ _ ?_, fun q => absurd q ne⟩
  refine rz_blk' [(.aload_n 0, 1, 0, 0), (.getfield 46, 3, 4, 14), (.iload_n 2, 1, 0, 0), (.iaload, 1, 0, 0)] (by decide +kernel) (Nat.le_refl _) (Nat.le_refl _) (fun K R hK hR => ?_)
  simp only [↓rx_aload_n0, ↓rx_getfield, ↓rx_iaload, ↓rx_iload_n2, ↓rx_nil, ↓ry_fvs, ↓ry_fvz, ↓ry_iau, ↓ry_li0s, ↓ry_li0z, ↓ry_lr0s, ↓ry_lr0z, ↓ry_obu, ↓ry_r1, ↓ry_ri, true_and, ↓ps_ob, ↓ps_i1, ↓ps_n1, ↓ps_i2, ↓ps_n2, ↓ps_i3, ↓ps_n3, ↓ps_r4, ↓ps_r5, ↓ps_i6, ↓ps_n6, ↓ps_i7, ↓ps_n7, ↓ps_i8, ↓ps_n8, ↓ps_i9, ↓ps_n9, ↓ps_i10, ↓ps_n10, ↓ps_i11, ↓ps_n11, rz_set, rz_nol, rz_clr, List.set_cons_zero, List.set_cons_succ, rz_tr, Nat.reduceAdd, Int.reduceAdd, Int.reduceToNat, Int.reduceSub, Int.reduceNeg, Int.cast_ofNat_Int]
  rw [nI_clamp (by omega), a8]
  refine ⟨vp_in_nI (by omega) (by decide), hK _ _ _ _ ?_⟩
  refine rz_blk' [(.istore_n 3, 1, 0, 0)] (by decide +kernel) (Nat.le_refl _) (Nat.le_refl _) (fun K R hK hR => ?_)
  simp only [↓rx_istore_n3, ↓rx_nil, ↓ry_i1, ↓ps_ob, ↓ps_i1, ↓ps_n1, ↓ps_i2, ↓ps_n2, ↓ps_i3, ↓ps_n3, ↓ps_r4, ↓ps_r5, ↓ps_i6, ↓ps_n6, ↓ps_i7, ↓ps_n7, ↓ps_i8, ↓ps_n8, ↓ps_i9, ↓ps_n9, ↓ps_i10, ↓ps_n10, ↓ps_i11, ↓ps_n11, rz_set, rz_nol, rz_clr, List.set_cons_zero, List.set_cons_succ, rz_tr, Nat.reduceAdd, Int.reduceAdd, Int.reduceToNat, Int.reduceSub, Int.reduceNeg, Int.cast_ofNat_Int]
  refine hK _ _ _ _ ?_
  refine rz_blk' [(.aload_n 1, 1, 0, 0), (.iload_n 3, 1, 0, 0)] (by decide +kernel) (Nat.le_refl _) (Nat.le_refl _) (fun K R hK hR => ?_)
  simp only [↓rx_aload_n1, ↓rx_iload_n3, ↓rx_nil, ↓ry_li0s, ↓ry_li0z, ↓ry_lr0s, ↓ry_lr0z, ↓ps_ob, ↓ps_i1, ↓ps_n1, ↓ps_i2, ↓ps_n2, ↓ps_i3, ↓ps_n3, ↓ps_r4, ↓ps_r5, ↓ps_i6, ↓ps_n6, ↓ps_i7, ↓ps_n7, ↓ps_i8, ↓ps_n8, ↓ps_i9, ↓ps_n9, ↓ps_i10, ↓ps_n10, ↓ps_i11, ↓ps_n11, rz_set, rz_nol, rz_clr, List.set_cons_zero, List.set_cons_succ, rz_tr, Nat.reduceAdd, Int.reduceAdd, Int.reduceToNat, Int.reduceSub, Int.reduceNeg, Int.cast_ofNat_Int]
  refine hK _ _ _ _ ?_
  refine rz_cV (As := [.int (nI y.1.length)]) (b := wo) (S := []) l_Pair_101 (by decide +kernel) rfl hwi.1 rfl (Nat.le_of_ble_eq_true rfl) (Nat.le_refl _) (Nat.le_refl _) (c_Word_stretch (by omega) hwi) (fun r G' hr => ?_)
  obtain ⟨rfl, rfl⟩ := hr
  simp only [Option.toList, List.nil_append]
  rw [ps_swp ao, Nat.min_eq_left (by omega)]
  refine rz_blk' [(.iload_n 3, 1, 0, 0), (.iconst 1, 1, 0, 0), (.isub, 1, 0, 0), (.istore 4, 2, 0, 0)] (by decide +kernel) (Nat.le_refl _) (Nat.le_refl _) (fun K R hK hR => ?_)
  simp only [rw_c1, ↓rx_iconst, ↓rx_iload_n3, ↓rx_istore, ↓rx_isub, ↓rx_nil, ↓ry_i1, ↓ry_i2, ↓ry_li0s, ↓ry_li0z, ↓ps_ob, ↓ps_i1, ↓ps_n1, ↓ps_i2, ↓ps_n2, ↓ps_i3, ↓ps_n3, ↓ps_r4, ↓ps_r5, ↓ps_i6, ↓ps_n6, ↓ps_i7, ↓ps_n7, ↓ps_i8, ↓ps_n8, ↓ps_i9, ↓ps_n9, ↓ps_i10, ↓ps_n10, ↓ps_i11, ↓ps_n11, rz_set, rz_nol, rz_clr, List.set_cons_zero, List.set_cons_succ, rz_tr, Nat.reduceAdd, Int.reduceAdd, Int.reduceToNat, Int.reduceSub, Int.reduceNeg, Int.cast_ofNat_Int]
  refine hK _ _ _ _ ?_
  have hl := ps_tw_l (w := w) (d := d + 1) (G := G) (a := a) (I := I) (A := A) (J := J) (X := X) (P := P) (Q := fun r G' => r = none ∧ G' = ps_put (wd_put G wo co y.1) a I A J X P ∧ y.1.length ≤ 72 ∧ ∀ x ∈ y.1, x < 3) s6 hG s3 ho hco ao (W := y.1) (by omega) hy3 (len := y.1.length) (y.1.length + 1) 0 g y (by omega) (by omega) hy (by simp)
  simp only [Nat.sub_zero, List.drop_length, List.append_nil] at hl
  refine hl (fun z => ?_)
  refine rz_blk' [(.return_, 1, 0, 0)] (by decide +kernel) (Nat.le_refl _) (Nat.le_refl _) (fun K R hK hR => ?_)
  simp only [↓rx_nil, ↓rx_return_, ↓ps_ob, ↓ps_i1, ↓ps_n1, ↓ps_i2, ↓ps_n2, ↓ps_i3, ↓ps_n3, ↓ps_r4, ↓ps_r5, ↓ps_i6, ↓ps_n6, ↓ps_i7, ↓ps_n7, ↓ps_i8, ↓ps_n8, ↓ps_i9, ↓ps_n9, ↓ps_i10, ↓ps_n10, ↓ps_i11, ↓ps_n11, rz_set, rz_nol, rz_clr, List.set_cons_zero, List.set_cons_succ, rz_tr, Nat.reduceAdd, Int.reduceAdd, Int.reduceToNat, Int.reduceSub, Int.reduceNeg, Int.cast_ofNat_Int]
  exact hR _ _ (rz_nb_i (by decide)) ⟨rfl, rfl, by omega, hy3⟩

