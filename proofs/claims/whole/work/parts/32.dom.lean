/-! WriterDesk$DomainSearch: tellWord -/
theorem dm_swp {G : rz_G} {a : Nat} {I : Nat → Int32} {A : Nat → Nat → Int32} {J : Nat → Nat → Int64} {X : Nat → List Nat} {P : Nat → Nat} {wo co : Nat} {xs : List Nat} (h : wo + 1 < a ∨ a + 5 ≤ wo) : wd_put (dm_put G a I A J X P) wo co xs = dm_put (wd_put G wo co xs) a I A J X P := by
  funext x
  by_cases q : a ≤ x ∧ x < a + 5
  · rw [wd_put_n (by omega) (by omega)]; simp only [dm_put]; rw [if_pos q, if_pos q]
  · simp only [dm_put, if_neg q]
    by_cases q1 : x = wo
    · subst q1; simp [wd_put, rz_up]
    · by_cases q2 : x = wo + 1
      · subst q2; simp [wd_put, rz_up]
      · rw [wd_put_n q1 q2, wd_put_n q1 q2]; simp only [dm_put, if_neg q]
/-- the word of a node -/
def dm_Wk (D : List dm_nd) : Nat → Nat → List Nat → Prop
  | 0, i, W => i = 0 ∧ W = []
  | k + 1, i, W => (i = 0 ∧ W = []) ∨ (0 < i ∧ ∃ n W', D[i]? = some n ∧ W = W' ++ [n.2.2.2] ∧ dm_Wk D k n.2.2.1 W')
def dm_W (D : List dm_nd) (i : Nat) (W : List Nat) : Prop := ∃ k, dm_Wk D k i W
theorem dm_W_z {D : List dm_nd} : dm_W D 0 [] := ⟨0, rfl, rfl⟩
theorem dm_W_s {D : List dm_nd} {i : Nat} {n : dm_nd} {W : List Nat} (h : 0 < i) (h2 : D[i]? = some n) (h3 : dm_W D n.2.2.1 W) : dm_W D i (W ++ [n.2.2.2]) := by
  obtain ⟨k, hk⟩ := h3
  exact ⟨k + 1, Or.inr ⟨h, n, W, h2, rfl, hk⟩⟩
theorem dm_W_c {D : List dm_nd} {i : Nat} {W : List Nat} (h : dm_W D i W) : (i = 0 ∧ W = []) ∨ (0 < i ∧ ∃ n W', D[i]? = some n ∧ W = W' ++ [n.2.2.2] ∧ dm_W D n.2.2.1 W') := by
  obtain ⟨k, hk⟩ := h
  cases k with
  | zero => exact Or.inl hk
  | succ k =>
    rcases hk with hk | ⟨q, n, W', q1, q2, q3⟩
    · exact Or.inl hk
    · exact Or.inr ⟨q, n, W', q1, q2, k, q3⟩
def dm_wf (D : List dm_nd) : Prop := ∀ i n, D[i]? = some n → 0 < i → n.2.2.1 < i ∧ n.2.2.2 < 3
theorem dm_W_ex {D : List dm_nd} (h : dm_wf D) : ∀ (k i : Nat), i < k → i < D.length → ∃ W, dm_W D i W ∧ W.length ≤ i ∧ ∀ x ∈ W, x < 3 := by
  intro k
  induction k with
  | zero => intro i hi; omega
  | succ k ih =>
    intro i hi hl
    by_cases c : i = 0
    · subst c; exact ⟨[], dm_W_z, by simp, by simp⟩
    · obtain ⟨x, hx⟩ : ∃ x, D[i]? = some x := ⟨_, List.getElem?_eq_getElem hl⟩
      obtain ⟨q1, q2⟩ := h i x hx (by omega)
      obtain ⟨W, w1, w2, w3⟩ := ih x.2.2.1 (by omega) (by omega)
      refine ⟨W ++ [x.2.2.2], dm_W_s (by omega) hx w1, by simp; omega, fun y hy => ?_⟩
      rcases List.mem_append.mp hy with q | q
      · exact w3 y q
      · simp at q; omega
theorem dm_W_uk {D : List dm_nd} : ∀ (k i : Nat) (W W' : List Nat), dm_Wk D k i W → dm_W D i W' → W = W' := by
  intro k
  induction k with
  | zero =>
    intro i W W' h h'
    rcases dm_W_c h' with q | q
    · rw [h.2, q.2]
    · have := h.1; omega
  | succ k ih =>
    intro i W W' h h'
    rcases h with h | ⟨q, n, W1, q1, q2, q3⟩
    · rcases dm_W_c h' with q | q
      · rw [h.2, q.2]
      · omega
    · rcases dm_W_c h' with r | ⟨r, n', W2, r1, r2, r3⟩
      · omega
      · rw [q1] at r1
        cases r1
        rw [q2, r2, ih _ _ _ q3 r3]
theorem dm_W_un {D : List dm_nd} {i : Nat} {W W' : List Nat} (h : dm_W D i W) (h' : dm_W D i W') : W = W' := by
  obtain ⟨k, hk⟩ := h
  exact dm_W_uk k i W W' hk h'
theorem dm_ss_wf {I : Nat → Int32} {A : Nat → Nat → Int32} {S : dm_sT} (h : dm_ss I A S) : dm_wf S.1 := fun i n hi h0 => by
  have := (h.1.2.2.2 i n hi).2.2.2 h0 (List.getElem?_eq_some_iff.mp hi).1
  exact ⟨this.2.2.1, this.2.2.2⟩
section DMR
variable {w : rz_w} {d : Nat} {G : rz_G} {a : Nat} {I : Nat → Int32} {A : Nat → Nat → Int32} {J : Nat → Nat → Int64} {X : Nat → List Nat} {P : Nat → Nat} {Q : Option Value → rz_G → Prop} {S : dm_sT}
set_option maxRecDepth 100000 in
set_option maxHeartbeats 4000000 in
theorem dm_tw_1 (hS : dm_ss I A S) {wo : Nat} {W : List Nat} (hW : W.length < 4096) :
    ∀ (k i : Nat) (W1 W2 : List Nat) (z : Option Value), i < k → i < S.1.length → dm_W S.1 i W1 → W1 ++ W2 = W →
      (∀ z, rz_T w (d + 2) 0 0 m_Dom_tellWord 0 0 31 [some (.ref a), some (.ref wo), some (.int (nI W.length)), z, none] [] (dm_put G a I A J X P) Q) →
      rz_T w (d + 2) 0 0 m_Dom_tellWord 0 0 7 [some (.ref a), some (.ref wo), some (.int (nI W2.length)), some (.int (nI i)), none] [] (dm_put G a I A J X P) Q := by
  intro k
  induction k with
  | zero => intro i W1 W2 z hi; omega
  | succ k ih =>
    intro i W1 W2 z hi hl h1 h2 hc
    have n1 := hS.1.2.1
    have h3 := congrArg List.length h2
    rw [List.length_append] at h3
    refine rz_blk' [(.iload_n 3, 1, 0, 0), (.ifCond .le 23, 3, 0, 0), (.iload_n 2, 1, 0, 0), (.sipush 4096, 3, 0, 0), (.if_icmp .ge 16, 3, 0, 0)] (by decide +kernel) (Nat.le_refl _) (Nat.le_refl _) (fun K R hK hR => ?_)
    simp only [rw_s4096, ↓rx_ifCond_le, ↓rx_if_icmp_ge, ↓rx_iload_n2, ↓rx_iload_n3, ↓rx_nil, ↓rx_sipush, ↓ry_i1, ↓ry_i2, ↓ry_li0s, ↓ry_li0z, ↓dm_ob, ↓dm_i1, ↓dm_n1, ↓dm_i2, ↓dm_n2, ↓dm_i3, ↓dm_n3, ↓dm_i4, ↓dm_n4, rz_set, rz_nol, rz_clr, List.set_cons_zero, List.set_cons_succ, rz_tr, Nat.reduceAdd, Int.reduceAdd, Int.reduceToNat, Int.reduceSub, Int.reduceNeg, Int.cast_ofNat_Int]
    rw [hp_z, nI_leI (by omega) (by omega), nI_leI (by omega) (by omega)]
    refine ⟨fun q => hK _ _ _ _ ?_, fun q => ⟨fun q2 => by omega, fun q2 => hK _ _ _ _ ?_⟩⟩
    · have : i = 0 := by omega
      subst this
      rcases dm_W_c h1 with r | r
      · rw [r.2, List.nil_append] at h2; rw [h2]; exact hc _
      · omega
    rcases dm_W_c h1 with r | ⟨r1, n, W3, r2, rfl, r3⟩
    · omega
    · simp only [List.append_assoc] at h2
      obtain ⟨w1, w2, w3, w4⟩ := hS.1.2.2.2 i n r2
      obtain ⟨w4, w5, w6, w7⟩ := w4 r1 hl
      refine rz_blk' [(.iinc 2 1, 3, 0, 0)] (by decide +kernel) (Nat.le_refl _) (Nat.le_refl _) (fun K R hK hR => ?_)
      simp only [rw_c1, ↓rx_iinc, ↓rx_nil, ↓ry_li0s, ↓ry_li0z, ↓dm_ob, ↓dm_i1, ↓dm_n1, ↓dm_i2, ↓dm_n2, ↓dm_i3, ↓dm_n3, ↓dm_i4, ↓dm_n4, nI_add, rz_set, rz_nol, rz_clr, List.set_cons_zero, List.set_cons_succ, rz_tr, Nat.reduceAdd, Int.reduceAdd, Int.reduceToNat, Int.reduceSub, Int.reduceNeg, Int.cast_ofNat_Int]
      refine hK _ _ _ _ ?_
      refine rz_blk' [(.aload_n 0, 1, 0, 0), (.getfield 19, 3, 5, 2), (.iload_n 3, 1, 0, 0), (.iaload, 1, 0, 0), (.istore_n 3, 1, 0, 0)] (by decide +kernel) (Nat.le_refl _) (Nat.le_refl _) (fun K R hK hR => ?_)
      simp only [↓rx_aload_n0, ↓rx_getfield, ↓rx_iaload, ↓rx_iload_n3, ↓rx_istore_n3, ↓rx_nil, ↓ry_fvs, ↓ry_fvz, ↓ry_i1, ↓ry_iau, ↓ry_li0s, ↓ry_li0z, ↓ry_lr0s, ↓ry_lr0z, ↓ry_obu, ↓ry_r1, ↓ry_ri, true_and, ↓dm_ob, ↓dm_i1, ↓dm_n1, ↓dm_i2, ↓dm_n2, ↓dm_i3, ↓dm_n3, ↓dm_i4, ↓dm_n4, rz_set, rz_nol, rz_clr, List.set_cons_zero, List.set_cons_succ, rz_tr, Nat.reduceAdd, Int.reduceAdd, Int.reduceToNat, Int.reduceSub, Int.reduceNeg, Int.cast_ofNat_Int]
      rw [nI_clamp (by omega), w4]
      refine ⟨vp_in_nI (by omega) (by decide), hK _ _ _ _ ?_⟩
      refine rz_blk' [(.goto (-21), 3, 0, 0)] (by decide +kernel) (Nat.le_refl _) (Nat.le_refl _) (fun K R hK hR => ?_)
      simp only [↓rx_goto, ↓rx_nil, ↓dm_ob, ↓dm_i1, ↓dm_n1, ↓dm_i2, ↓dm_n2, ↓dm_i3, ↓dm_n3, ↓dm_i4, ↓dm_n4, rz_set, rz_nol, rz_clr, List.set_cons_zero, List.set_cons_succ, rz_tr, Nat.reduceAdd, Int.reduceAdd, Int.reduceToNat, Int.reduceSub, Int.reduceNeg, Int.cast_ofNat_Int]
      have := ih n.2.2.1 W3 (n.2.2.2 :: W2) none (by omega) (by omega) r3 (by rw [← h2]; rfl) hc
      rw [List.length_cons] at this
      exact hK _ _ _ _ this

set_option maxRecDepth 100000 in
set_option maxHeartbeats 4000000 in
theorem dm_tw_l (hS : dm_ss I A S) {wo co : Nat} {xs : List Nat} (ho : wd_is G wo co xs) (hco : 4096 ≤ 16 * co) (ao : wo + 1 < a ∨ a + 5 ≤ wo) {W : List Nat} (hW : W.length ≤ 4096) (hW3 : ∀ x ∈ W, x < 3) {len : Nat} :
    ∀ (k i g : Nat) (y : List Nat), W.length + 1 ≤ i + k → i ≤ W.length → g < S.1.length → dm_W S.1 g y → y ++ W.drop (W.length - i) = W →
      (∀ z, rz_T w (d + 1) 0 0 m_Dom_tellWord 0 0 76 z [] (dm_put (wd_put G wo co W) a I A J X P) Q) →
      rz_T w (d + 1) 0 0 m_Dom_tellWord 0 0 46 [some (.ref a), some (.ref wo), some (.int (nI len)), some (.int (nI g)), some (.int (nI (W.length - i) - 1))] [] (dm_put (wd_put G wo co (List.replicate (W.length - i) 0 ++ W.drop (W.length - i))) a I A J X P) Q := by
  intro k
  induction k with
  | zero => intro i g y q1 q2; omega
  | succ k ih =>
    intro i g y hk hi hgl hy hw hc
    have n1 := hS.1.2.1
    have hyl : y.length = W.length - i := by
      have := congrArg List.length hw
      simp at this; omega
    by_cases c : W.length - i = 0
    · rw [c] at hyl hw ⊢
      refine rz_blk' [(.iload 4, 2, 0, 0), (.ifCond .lt 28, 3, 0, 0)] (by decide +kernel) (Nat.le_refl _) (Nat.le_refl _) (fun K R hK hR => ?_)
      simp only [↓rx_ifCond_lt, ↓rx_iload, ↓rx_nil, ↓ry_i1, ↓ry_li0s, ↓ry_li0z, ↓dm_ob, ↓dm_i1, ↓dm_n1, ↓dm_i2, ↓dm_n2, ↓dm_i3, ↓dm_n3, ↓dm_i4, ↓dm_n4, rz_set, rz_nol, rz_clr, List.set_cons_zero, List.set_cons_succ, rz_tr, Nat.reduceAdd, Int.reduceAdd, Int.reduceToNat, Int.reduceSub, Int.reduceNeg, Int.cast_ofNat_Int]
      refine ⟨fun q => hK _ _ _ _ ?_, fun q => absurd (show nI 0 - 1 < 0 by decide) q⟩
      simp only [List.replicate_zero, List.nil_append, List.drop_zero]
      exact hc _
    · obtain ⟨j, hj⟩ : ∃ j, W.length - i = j + 1 := ⟨W.length - i - 1, by omega⟩
      rw [hj] at hyl hw ⊢
      have ej : nI (j + 1) - 1 = nI j := by rw [← nI_add]; exact Int32.add_sub_cancel _ _
      rw [ej]
      rcases dm_W_c hy with r | ⟨r1, n, y', r2, rfl, r3⟩
      · rw [r.2] at hyl; simp at hyl
      have hyl' : y'.length = j := by simpa using hyl
      obtain ⟨w1, w2, w3, w4⟩ := hS.1.2.2.2 g n r2
      obtain ⟨a6, a7, w6, w7⟩ := w4 r1 hgl
      have hok0 : wd_ok co (List.replicate (j + 1) 0 ++ W.drop (j + 1)) := by
        refine ⟨by simp; omega, fun x hx => ?_, ho.2.2.2.2⟩
        rcases List.mem_append.mp hx with q | q
        · rw [List.eq_of_mem_replicate q]; decide
        · have := hW3 x (List.mem_of_mem_drop q); omega
      have hwi : wd_is (dm_put (wd_put G wo co (List.replicate (j + 1) 0 ++ W.drop (j + 1))) a I A J X P) wo co (List.replicate (j + 1) 0 ++ W.drop (j + 1)) := wd_is_keep (wd_put_is hok0) (dm_out (by omega)) (dm_out (by omega))
      refine rz_blk' [(.iload 4, 2, 0, 0), (.ifCond .lt 28, 3, 0, 0), (.aload_n 1, 1, 0, 0), (.iload 4, 2, 0, 0), (.aload_n 0, 1, 0, 0), (.getfield 22, 3, 5, 3), (.iload_n 3, 1, 0, 0), (.baload, 1, 0, 0)] (by decide +kernel) (Nat.le_refl _) (Nat.le_refl _) (fun K R hK hR => ?_)
      simp only [Nat.reduceEqDiff, false_or, or_false, or_true, reduceIte, ↓rx_aload_n0, ↓rx_aload_n1, ↓rx_baload, ↓rx_getfield, ↓rx_ifCond_lt, ↓rx_iload, ↓rx_iload_n3, ↓rx_nil, ↓ry_fvs, ↓ry_fvz, ↓ry_i1, ↓ry_iau, ↓ry_li0s, ↓ry_li0z, ↓ry_lr0s, ↓ry_lr0z, ↓ry_obu, ↓ry_r1, ↓ry_ri, true_and, true_or, ↓dm_ob, ↓dm_i1, ↓dm_n1, ↓dm_i2, ↓dm_n2, ↓dm_i3, ↓dm_n3, ↓dm_i4, ↓dm_n4, rz_set, rz_nol, rz_clr, List.set_cons_zero, List.set_cons_succ, rz_tr, Nat.reduceAdd, Int.reduceAdd, Int.reduceToNat, Int.reduceSub, Int.reduceNeg, Int.cast_ofNat_Int]
      have nz : ¬ (nI j < 0) := nI_pos (by omega)
      refine ⟨fun q => absurd q nz, fun q => ?_⟩
      rw [nI_clamp (by omega), a7]
      refine ⟨vp_in_nI (by omega) (by decide), hK _ _ _ _ ?_⟩
      refine rz_cV (As := [.int (nI j), .int (nI n.2.2.2)]) (b := wo) (S := []) l_Dom_61 (by decide +kernel) rfl hwi.1 rfl (Nat.le_of_ble_eq_true rfl) (Nat.le_refl _) (Nat.le_refl _) (c_Word_put hwi (by simp; omega) (by omega)) (fun r G' hr => ?_)
      obtain ⟨rfl, rfl⟩ := hr
      simp only [Option.toList, List.nil_append]
      have hdj : W.drop j = n.2.2.2 :: W.drop (j + 1) := by
        have hjw : W[j]? = some n.2.2.2 := by
          rw [← hw]
          rw [List.getElem?_append_left (by simp; omega), List.getElem?_append_right (by omega), hyl']
          simp
        have hjl : j < W.length := by omega
        rw [List.drop_eq_getElem_cons hjl]
        congr 1
        rw [List.getElem?_eq_getElem hjl] at hjw
        exact Option.some.inj hjw
      have hset : (List.replicate (j + 1) 0 ++ W.drop (j + 1)).set j n.2.2.2 = List.replicate j 0 ++ W.drop j := by
        rw [hdj, List.replicate_succ', List.append_assoc, List.set_append_right _ _ (by simp)]
        simp
      rw [dm_swp ao, wd_put_put, hset]
      refine rz_blk' [(.aload_n 0, 1, 0, 0), (.getfield 19, 3, 5, 2), (.iload_n 3, 1, 0, 0), (.iaload, 1, 0, 0), (.istore_n 3, 1, 0, 0)] (by decide +kernel) (Nat.le_refl _) (Nat.le_refl _) (fun K R hK hR => ?_)
      simp only [↓rx_aload_n0, ↓rx_getfield, ↓rx_iaload, ↓rx_iload_n3, ↓rx_istore_n3, ↓rx_nil, ↓ry_fvs, ↓ry_fvz, ↓ry_i1, ↓ry_iau, ↓ry_li0s, ↓ry_li0z, ↓ry_lr0s, ↓ry_lr0z, ↓ry_obu, ↓ry_r1, ↓ry_ri, true_and, ↓dm_ob, ↓dm_i1, ↓dm_n1, ↓dm_i2, ↓dm_n2, ↓dm_i3, ↓dm_n3, ↓dm_i4, ↓dm_n4, rz_set, rz_nol, rz_clr, List.set_cons_zero, List.set_cons_succ, rz_tr, Nat.reduceAdd, Int.reduceAdd, Int.reduceToNat, Int.reduceSub, Int.reduceNeg, Int.cast_ofNat_Int]
      rw [nI_clamp (by omega), a6]
      refine ⟨vp_in_nI (by omega) (by decide), hK _ _ _ _ ?_⟩
      refine rz_blk' [(.iinc 4 (-1), 3, 0, 0), (.goto (-27), 3, 0, 0)] (by decide +kernel) (Nat.le_refl _) (Nat.le_refl _) (fun K R hK hR => ?_)
      simp only [rw_cm1, ↓rx_goto, ↓rx_iinc, ↓rx_nil, ↓ry_li0s, ↓ry_li0z, ↓dm_ob, ↓dm_i1, ↓dm_n1, ↓dm_i2, ↓dm_n2, ↓dm_i3, ↓dm_n3, ↓dm_i4, ↓dm_n4, rz_set, rz_nol, rz_clr, List.set_cons_zero, List.set_cons_succ, rz_tr, Nat.reduceAdd, Int.reduceAdd, Int.reduceToNat, Int.reduceSub, Int.reduceNeg, Int.cast_ofNat_Int]
      refine hK _ _ _ _ ?_
      have ei : W.length - (i + 1) = j := by omega
      have := ih (i + 1) n.2.2.1 y' (by omega) (by omega) (by omega) r3 (by
        rw [ei, hdj]
        rw [List.append_assoc] at hw
        exact hw) hc
      rw [ei] at this
      rw [← Int32.sub_eq_add_neg]
      exact this
end DMR

set_option maxRecDepth 100000 in
set_option maxHeartbeats 4000000 in
/-- tellWord(into) -/
theorem c_Dom_tellWord {w : rz_w} {d : Nat} {G : rz_G} {a : Nat} {I : Nat → Int32} {A : Nat → Nat → Int32} {J : Nat → Nat → Int64} {X : Nat → List Nat} {P : Nat → Nat} {S : dm_sT} {g wo co : Nat} {xs : List Nat} (hS : dm_ss I A S) (hf : S.2 = some g) (ho : wd_is G wo co xs) (hco : 4096 ≤ 16 * co) (ao : wo + 1 < a ∨ a + 5 ≤ wo) :
    rz_C w (d + 2) 0 0 y_Dom_tellWord m_Dom_tellWord [.ref a, .ref wo] (dm_put G a I A J X P) (fun r G' => r = none ∧ ∃ W, dm_W S.1 g W ∧ W.length ≤ 4096 ∧ (∀ x ∈ W, x < 3) ∧ G' = dm_put (wd_put G wo co W) a I A J X P) := by
  have hgl := hS.2.2 g hf
  have n1 := hS.1.2.1
  obtain ⟨W, hw, hwl, hw3⟩ := dm_W_ex (dm_ss_wf hS) (g + 1) g (by omega) hgl
  have e2 : I 1 = nI g := by rw [hS.2.1, hf]; rfl
  have hwi : wd_is (dm_put G a I A J X P) wo co xs := wd_is_keep ho (dm_out (by omega)) (dm_out (by omega))
  refine rz_enter' [some (.ref a), some (.ref wo), none, none, none] (by decide +kernel) rfl rfl (Nat.le_of_ble_eq_true rfl) rfl ?_
  refine rz_blk' [(.iconst 0, 1, 0, 0), (.istore_n 2, 1, 0, 0)] (by decide +kernel) (Nat.le_refl _) (Nat.le_refl _) (fun K R hK hR => ?_)
  simp only [rw_c0, ↓rx_iconst, ↓rx_istore_n2, ↓rx_nil, ↓ry_i1, ↓dm_ob, ↓dm_i1, ↓dm_n1, ↓dm_i2, ↓dm_n2, ↓dm_i3, ↓dm_n3, ↓dm_i4, ↓dm_n4, rz_set, rz_nol, rz_clr, List.set_cons_zero, List.set_cons_succ, rz_tr, Nat.reduceAdd, Int.reduceAdd, Int.reduceToNat, Int.reduceSub, Int.reduceNeg, Int.cast_ofNat_Int]
  refine hK _ _ _ _ ?_
  refine rz_blk' [(.aload_n 0, 1, 0, 0), (.getfield 35, 3, 5, 5), (.istore_n 3, 1, 0, 0)] (by decide +kernel) (Nat.le_refl _) (Nat.le_refl _) (fun K R hK hR => ?_)
  simp only [↓rx_aload_n0, ↓rx_getfield, ↓rx_istore_n3, ↓rx_nil, ↓ry_fvs, ↓ry_fvz, ↓ry_i1, ↓ry_lr0s, ↓ry_lr0z, ↓ry_obu, ↓ry_r1, ↓dm_ob, ↓dm_i1, ↓dm_n1, ↓dm_i2, ↓dm_n2, ↓dm_i3, ↓dm_n3, ↓dm_i4, ↓dm_n4, e2, rz_set, rz_nol, rz_clr, List.set_cons_zero, List.set_cons_succ, rz_tr, Nat.reduceAdd, Int.reduceAdd, Int.reduceToNat, Int.reduceSub, Int.reduceNeg, Int.cast_ofNat_Int]
  refine hK _ _ _ _ ?_
  refine dm_tw_1 (w := w) (d := d) hS (wo := wo) (W := W) (by omega) (g + 1) g W [] none (by omega) hgl hw (by simp) (fun z => ?_)
  refine rz_blk' [(.aload_n 1, 1, 0, 0), (.iload_n 2, 1, 0, 0)] (by decide +kernel) (Nat.le_refl _) (Nat.le_refl _) (fun K R hK hR => ?_)
  simp only [↓rx_aload_n1, ↓rx_iload_n2, ↓rx_nil, ↓ry_li0s, ↓ry_li0z, ↓ry_lr0s, ↓ry_lr0z, ↓dm_ob, ↓dm_i1, ↓dm_n1, ↓dm_i2, ↓dm_n2, ↓dm_i3, ↓dm_n3, ↓dm_i4, ↓dm_n4, rz_set, rz_nol, rz_clr, List.set_cons_zero, List.set_cons_succ, rz_tr, Nat.reduceAdd, Int.reduceAdd, Int.reduceToNat, Int.reduceSub, Int.reduceNeg, Int.cast_ofNat_Int]
  refine hK _ _ _ _ ?_
  refine rz_cV (As := [.int (nI W.length)]) (b := wo) (S := []) l_Dom_55 (by decide +kernel) rfl hwi.1 rfl (Nat.le_of_ble_eq_true rfl) (Nat.le_refl _) (Nat.le_refl _) (c_Word_stretch (by omega) hwi) (fun r G' hr => ?_)
  obtain ⟨rfl, rfl⟩ := hr
  simp only [Option.toList, List.nil_append]
  rw [dm_swp ao, Nat.min_eq_left (by omega)]
  refine rz_blk' [(.aload_n 0, 1, 0, 0), (.getfield 35, 3, 5, 5), (.istore_n 3, 1, 0, 0)] (by decide +kernel) (Nat.le_refl _) (Nat.le_refl _) (fun K R hK hR => ?_)
  simp only [↓rx_aload_n0, ↓rx_getfield, ↓rx_istore_n3, ↓rx_nil, ↓ry_fvs, ↓ry_fvz, ↓ry_i1, ↓ry_lr0s, ↓ry_lr0z, ↓ry_obu, ↓ry_r1, ↓dm_ob, ↓dm_i1, ↓dm_n1, ↓dm_i2, ↓dm_n2, ↓dm_i3, ↓dm_n3, ↓dm_i4, ↓dm_n4, e2, rz_set, rz_nol, rz_clr, List.set_cons_zero, List.set_cons_succ, rz_tr, Nat.reduceAdd, Int.reduceAdd, Int.reduceToNat, Int.reduceSub, Int.reduceNeg, Int.cast_ofNat_Int]
  refine hK _ _ _ _ ?_
  refine rz_blk' [(.iload_n 2, 1, 0, 0), (.iconst 1, 1, 0, 0), (.isub, 1, 0, 0), (.istore 4, 2, 0, 0)] (by decide +kernel) (Nat.le_refl _) (Nat.le_refl _) (fun K R hK hR => ?_)
  simp only [rw_c1, ↓rx_iconst, ↓rx_iload_n2, ↓rx_istore, ↓rx_isub, ↓rx_nil, ↓ry_i1, ↓ry_i2, ↓ry_li0s, ↓ry_li0z, ↓dm_ob, ↓dm_i1, ↓dm_n1, ↓dm_i2, ↓dm_n2, ↓dm_i3, ↓dm_n3, ↓dm_i4, ↓dm_n4, rz_set, rz_nol, rz_clr, List.set_cons_zero, List.set_cons_succ, rz_tr, Nat.reduceAdd, Int.reduceAdd, Int.reduceToNat, Int.reduceSub, Int.reduceNeg, Int.cast_ofNat_Int]
  refine hK _ _ _ _ ?_
  have hl := dm_tw_l (w := w) (d := d + 1) (G := G) (a := a) (I := I) (A := A) (J := J) (X := X) (P := P) (Q := fun r G' => r = none ∧ ∃ W, dm_W S.1 g W ∧ W.length ≤ 4096 ∧ (∀ x ∈ W, x < 3) ∧ G' = dm_put (wd_put G wo co W) a I A J X P) hS ho hco ao (W := W) (by omega) hw3 (len := W.length) (W.length + 1) 0 g W (by omega) (by omega) hgl hw (by simp)
  simp only [Nat.sub_zero, List.drop_length, List.append_nil] at hl
  refine hl (fun z => ?_)
  refine rz_blk' [(.return_, 1, 0, 0)] (by decide +kernel) (Nat.le_refl _) (Nat.le_refl _) (fun K R hK hR => ?_)
  simp only [↓rx_nil, ↓rx_return_, ↓dm_ob, ↓dm_i1, ↓dm_n1, ↓dm_i2, ↓dm_n2, ↓dm_i3, ↓dm_n3, ↓dm_i4, ↓dm_n4, rz_set, rz_nol, rz_clr, List.set_cons_zero, List.set_cons_succ, rz_tr, Nat.reduceAdd, Int.reduceAdd, Int.reduceToNat, Int.reduceSub, Int.reduceNeg, Int.cast_ofNat_Int]
  exact hR _ _ (rz_nb_i (by decide)) ⟨rfl, W, hw, by omega, hw3, rfl⟩

