/-! WriterDesk$PairSearch: nodes, visit, start -/
abbrev ps_nd : Type := Nat × Nat × Bool × List Nat × List Nat
def ps_pq (p q : Nat) (n : ps_nd) : Bool := decide (n.1 = p) && decide (n.2.1 = q)
def ps_cnt (N : List ps_nd) (p q : Nat) : Nat := N.countP (ps_pq p q)
def ps_1st (N : List ps_nd) (p q : Nat) : Option ps_nd := N.find? (ps_pq p q)
/-- the node is kept -/
def ps_new (N : List ps_nd) (n : ps_nd) : Bool := decide (ps_cnt N n.1 n.2.1 < 2) && !decide (ps_1st N n.1 n.2.1 = some n) && decide (N.length < 72)
def ps_ns (I : Nat → Int32) (A : Nat → Nat → Int32) (X : Nat → List Nat) (N : List ps_nd) : Prop :=
  I 0 = nI N.length ∧ N.length ≤ 72 ∧ (∀ j, j < 146 → wd_ok 26 (X j)) ∧
  (∀ i n, N[i]? = some n → A 0 i = nI n.1 ∧ A 1 i = nI n.2.1 ∧ A 2 i = rz_b n.2.2.1 ∧ X (2 + 2 * i) = n.2.2.2.1 ∧ X (2 + (2 * i + 1)) = n.2.2.2.2 ∧ n.1 < 6 ∧ n.2.1 < 6) ∧
  (∀ p q, p < 6 → q < 6 → A 3 (p * 6 + q) = nI (ps_cnt N p q) ∧ ps_cnt N p q ≤ 2 ∧ (1 ≤ ps_cnt N p q → ∃ i n, A 4 (p * 6 + q) = nI i ∧ N[i]? = some n ∧ ps_1st N p q = some n))
theorem ps_cnt_app (N : List ps_nd) (n : ps_nd) (p q : Nat) : ps_cnt (N ++ [n]) p q = ps_cnt N p q + if ps_pq p q n then 1 else 0 := by
  simp only [ps_cnt, List.countP_append, List.countP_singleton]
theorem ps_1st_0 {N : List ps_nd} {p q : Nat} (h : ps_cnt N p q = 0) : ps_1st N p q = none := by
  simp only [ps_1st, List.find?_eq_none]
  exact List.countP_eq_zero.mp h
theorem ps_1st_1 {N : List ps_nd} {n : ps_nd} {p q : Nat} (h : 1 ≤ ps_cnt N p q) : ps_1st (N ++ [n]) p q = ps_1st N p q := by
  simp only [ps_1st, List.find?_append]
  obtain ⟨x, hx, hp⟩ := List.countP_pos_iff.mp h
  cases e : N.find? (ps_pq p q) with
  | none => exact absurd hp (List.find?_eq_none.mp e x hx)
  | some y => rfl
theorem ps_keep01 {I : Nat → Int32} {A : Nat → Nat → Int32} {X : Nat → List Nat} {N : List ps_nd} {u v : List Nat} (h : ps_ns I A X N) (hu : wd_ok 26 u) (hv : wd_ok 26 v) : ps_ns I A (va_up (va_up X 0 u) 1 v) N := by
  obtain ⟨h1, h2, h3, h4, h5⟩ := h
  refine ⟨h1, h2, fun j hj => ?_, fun i n hn => ?_, h5⟩
  · simp only [va_up]
    by_cases q1 : j = 1
    · rw [if_pos q1]; exact hv
    · rw [if_neg q1]
      by_cases q0 : j = 0
      · rw [if_pos q0]; exact hu
      · rw [if_neg q0]; exact h3 j hj
  · rw [va_up_ne _ _ (by omega), va_up_ne _ _ (by omega), va_up_ne _ _ (by omega), va_up_ne _ _ (by omega)]; exact h4 i n hn
theorem ps_keepI {I I' : Nat → Int32} {A A' : Nat → Nat → Int32} {X : Nat → List Nat} {N : List ps_nd} (h : ps_ns I A X N) (hI : I' 0 = I 0) (hA : ∀ k, k < 5 → A' k = A k) : ps_ns I' A' X N := by
  simp only [ps_ns] at h ⊢
  rw [hI, hA 0 (by decide), hA 1 (by decide), hA 2 (by decide), hA 3 (by decide), hA 4 (by decide)]
  exact h
/-- one node more -/
theorem ps_ns_add {I I' : Nat → Int32} {A A' : Nat → Nat → Int32} {X X' : Nat → List Nat} {N : List ps_nd} {n : ps_nd} (h : ps_ns I A X N) (hnew : ps_new N n = true) (hn1 : n.1 < 6) (hn2 : n.2.1 < 6) (hI : I' 0 = nI (N.length + 1)) (hX : ∀ j, j < 146 → wd_ok 26 (X' j)) (hXo : ∀ j, 2 ≤ j → j ≠ 2 + 2 * N.length → j ≠ 2 + (2 * N.length + 1) → X' j = X j) (hX1 : X' (2 + 2 * N.length) = n.2.2.2.1) (hX2 : X' (2 + (2 * N.length + 1)) = n.2.2.2.2)
    (h0 : A' 0 = upd (A 0) N.length (nI n.1)) (h1 : A' 1 = upd (A 1) N.length (nI n.2.1)) (h2 : A' 2 = upd (A 2) N.length (rz_b n.2.2.1)) (h3 : A' 3 = upd (A 3) (n.1 * 6 + n.2.1) (nI (ps_cnt N n.1 n.2.1 + 1))) (h4 : A' 4 = if ps_cnt N n.1 n.2.1 = 0 then upd (A 4) (n.1 * 6 + n.2.1) (nI N.length) else A 4) : ps_ns I' A' X' (N ++ [n]) := by
  simp only [ps_new, Bool.and_eq_true, decide_eq_true_eq, Bool.not_eq_true', decide_eq_false_iff_not] at hnew
  obtain ⟨⟨hc, h1st⟩, hl⟩ := hnew
  obtain ⟨a1, a2, a3, a4, a5⟩ := h
  refine ⟨by rw [hI]; simp, by simp; omega, hX, fun i m hm => ?_, fun p q hp hq => ?_⟩
  · by_cases c : i < N.length
    · rw [List.getElem?_append_left c] at hm
      rw [h0, h1, h2, pk_un (by omega), pk_un (by omega), pk_un (by omega), hXo _ (by omega) (by omega) (by omega), hXo _ (by omega) (by omega) (by omega)]
      exact a4 i m hm
    · have hi : i = N.length := by
        have := (List.getElem?_eq_some_iff.mp hm).1
        simp at this; omega
      subst hi
      simp at hm
      subst hm
      rw [h0, h1, h2, pk_us, pk_us, pk_us]
      exact ⟨rfl, rfl, rfl, hX1, hX2, hn1, hn2⟩
  · rw [ps_cnt_app, h3, h4]
    by_cases c : p = n.1 ∧ q = n.2.1
    · obtain ⟨rfl, rfl⟩ := c
      have ei : ps_pq n.1 n.2.1 n = true := by simp [ps_pq]
      rw [pk_us, if_pos ei]
      refine ⟨rfl, by omega, fun _ => ?_⟩
      by_cases c0 : ps_cnt N n.1 n.2.1 = 0
      · rw [if_pos c0, pk_us]
        refine ⟨N.length, n, rfl, by simp, ?_⟩
        have := ps_1st_0 c0
        simp only [ps_1st, List.find?_append] at this ⊢
        rw [this]
        simp [ei]
      · rw [if_neg c0]
        obtain ⟨i, m, e1, e2, e3⟩ := (a5 n.1 n.2.1 hp hq).2.2 (by omega)
        exact ⟨i, m, e1, by rw [List.getElem?_append_left (List.getElem?_eq_some_iff.mp e2).1]; exact e2, by rw [ps_1st_1 (by omega)]; exact e3⟩
    · have ei : ps_pq p q n = false := by
        simp only [ps_pq, Bool.and_eq_false_iff, decide_eq_false_iff_not]
        by_cases c1 : n.1 = p
        · exact Or.inr (fun c2 => c ⟨c1.symm, c2.symm⟩)
        · exact Or.inl c1
      have hne : p * 6 + q ≠ n.1 * 6 + n.2.1 := by omega
      rw [pk_un hne, if_neg (by rw [ei]; simp), Nat.add_zero]
      obtain ⟨b1, b2, b3⟩ := a5 p q hp hq
      refine ⟨b1, b2, fun b4 => ?_⟩
      obtain ⟨i, m, e1, e2, e3⟩ := b3 b4
      refine ⟨i, m, ?_, by rw [List.getElem?_append_left (List.getElem?_eq_some_iff.mp e2).1]; exact e2, by rw [ps_1st_1 b4]; exact e3⟩
      split
      · rw [pk_un hne]; exact e1
      · exact e1
/-- what visit does -/
def ps_vp (G : rz_G) (a : Nat) (J : Nat → Nat → Int64) (P : Nat → Nat) (I : Nat → Int32) (A : Nat → Nat → Int32) (X : Nat → List Nat) (N : List ps_nd) (n : ps_nd) (ea : Bool) (G' : rz_G) : Prop :=
  (ps_new N n = false ∧ G' = ps_put G a I A J X P) ∨ (ps_new N n = true ∧ ∃ I' A' X', G' = ps_put G a I' A' J X' P ∧ ps_ns I' A' X' (N ++ [n]) ∧ I' 1 = I 1 ∧ I' 2 = (if I 2 = -1 ∧ ea = true then I 1 else I 2) ∧ ∀ k, 5 ≤ k → A' k = A k)
set_option maxRecDepth 100000 in
set_option maxHeartbeats 4000000 in
/-- visit(p, q, apart) -/
theorem c_Pair_visit {w : rz_w} {d : Nat} {G : rz_G} {a : Nat} {I : Nat → Int32} {A : Nat → Nat → Int32} {J : Nat → Nat → Int64} {X : Nat → List Nat} {P : Nat → Nat} {S1 S2 : mc_S} {m1 m2 : mv_T} {c1 c2 p q : Nat} {ap : Bool} {N : List ps_nd} (h1 : mc_at' G (P 0) a 304 S1 m1 c1) (h2 : mc_at' G (P 1) a 304 S2 m2 c2) (hp : p < 6) (hq : q < 6) (hN : ps_ns I A X N) (l0 : (X 0).length ≤ 368) (l1 : (X 1).length ≤ 368) :
    rz_C w (d + 2) 0 0 y_Pair_visit m_Pair_visit [.ref a, .int (nI p), .int (nI q), .int (rz_b ap)] (ps_put G a I A J X P) (fun r G' => r = none ∧ ps_vp G a J P I A X N (p, q, ap, X 0, X 1) (ps_ea m1 m2 c1 c2 p q ap (X 0) (X 1)) G') := by
  obtain ⟨a1, a2, a3, a4, a5⟩ := id hN
  obtain ⟨k1, k2, k3⟩ := a5 p q hp hq
  have x0 := a3 0 (by decide)
  have x1 := a3 1 (by decide)
  generalize hcn : ps_cnt N p q = cn at k1 k2 k3
  refine rz_enter' [some (.ref a), some (.int (nI p)), some (.int (nI q)), some (.int (rz_b ap)), none] (by decide +kernel) rfl rfl (Nat.le_of_ble_eq_true rfl) rfl ?_
  refine rz_blk' [(.iload_n 1, 1, 0, 0), (.bipush 6, 2, 0, 0), (.imul, 1, 0, 0), (.iload_n 2, 1, 0, 0), (.iadd, 1, 0, 0), (.istore 4, 2, 0, 0)] (by decide +kernel) (Nat.le_refl _) (Nat.le_refl _) (fun K R hK hR => ?_)
  simp only [rw_b6, ↓rx_bipush, ↓rx_iadd, ↓rx_iload_n1, ↓rx_iload_n2, ↓rx_imul, ↓rx_istore, ↓rx_nil, ↓ry_i1, ↓ry_i2, ↓ry_li0s, ↓ry_li0z, ↓ps_ob, ↓ps_i1, ↓ps_n1, ↓ps_i2, ↓ps_n2, ↓ps_i3, ↓ps_n3, ↓ps_r4, ↓ps_r5, ↓ps_i6, ↓ps_n6, ↓ps_i7, ↓ps_n7, ↓ps_i8, ↓ps_n8, ↓ps_i9, ↓ps_n9, ↓ps_i10, ↓ps_n10, ↓ps_i11, ↓ps_n11, pk_mul, nI_add, rz_set, rz_nol, rz_clr, List.set_cons_zero, List.set_cons_succ, rz_tr, Nat.reduceAdd, Int.reduceAdd, Int.reduceToNat, Int.reduceSub, Int.reduceNeg, Int.cast_ofNat_Int]
  refine hK _ _ _ _ ?_
  have hskip : ps_new N (p, q, ap, X 0, X 1) = false → rz_T w (d + 2) 0 0 m_Pair_visit 0 0 54 [some (.ref a), some (.int (nI p)), some (.int (nI q)), some (.int (rz_b ap)), some (.int (nI (p * 6 + q)))] [] (ps_put G a I A J X P) (fun r G' => r = none ∧ ps_vp G a J P I A X N (p, q, ap, X 0, X 1) (ps_ea m1 m2 c1 c2 p q ap (X 0) (X 1)) G') := by
    intro e
    refine rz_blk' [(.return_, 1, 0, 0)] (by decide +kernel) (Nat.le_refl _) (Nat.le_refl _) (fun K R hK hR => ?_)
    simp only [↓rx_nil, ↓rx_return_, ↓ps_ob, ↓ps_i1, ↓ps_n1, ↓ps_i2, ↓ps_n2, ↓ps_i3, ↓ps_n3, ↓ps_r4, ↓ps_r5, ↓ps_i6, ↓ps_n6, ↓ps_i7, ↓ps_n7, ↓ps_i8, ↓ps_n8, ↓ps_i9, ↓ps_n9, ↓ps_i10, ↓ps_n10, ↓ps_i11, ↓ps_n11, rz_set, rz_nol, rz_clr, List.set_cons_zero, List.set_cons_succ, rz_tr, Nat.reduceAdd, Int.reduceAdd, Int.reduceToNat, Int.reduceSub, Int.reduceNeg, Int.cast_ofNat_Int]
    exact hR _ _ (rz_nb_i (by decide)) ⟨rfl, Or.inl ⟨e, rfl⟩⟩
  have hgo : ps_new N (p, q, ap, X 0, X 1) = true → rz_T w (d + 2) 0 0 m_Pair_visit 0 0 55 [some (.ref a), some (.int (nI p)), some (.int (nI q)), some (.int (rz_b ap)), some (.int (nI (p * 6 + q)))] [] (ps_put G a I A J X P) (fun r G' => r = none ∧ ps_vp G a J P I A X N (p, q, ap, X 0, X 1) (ps_ea m1 m2 c1 c2 p q ap (X 0) (X 1)) G') := by
    intro hnew
    have hnew2 := hnew
    simp only [ps_new, Bool.and_eq_true, decide_eq_true_eq, Bool.not_eq_true', decide_eq_false_iff_not] at hnew2
    obtain ⟨⟨hc2, -⟩, hl⟩ := hnew2
    rw [hcn] at hc2
    have hfin : ∀ A1 : Nat → Nat → Int32, A1 = (if cn = 0 then va_up A 4 (upd (A 4) (p * 6 + q) (nI N.length)) else A) → rz_T w (d + 2) 0 0 m_Pair_visit 0 0 76 [some (.ref a), some (.int (nI p)), some (.int (nI q)), some (.int (rz_b ap)), some (.int (nI (p * 6 + q)))] [] (ps_put G a I A1 J X P) (fun r G' => r = none ∧ ps_vp G a J P I A X N (p, q, ap, X 0, X 1) (ps_ea m1 m2 c1 c2 p q ap (X 0) (X 1)) G') := by
      intro A1 hA1
      have t3 : A1 3 = A 3 := by rw [hA1]; split <;> simp [va_up]
      have t0 : A1 0 = A 0 := by rw [hA1]; split <;> simp [va_up]
      have t1 : A1 1 = A 1 := by rw [hA1]; split <;> simp [va_up]
      have t2 : A1 2 = A 2 := by rw [hA1]; split <;> simp [va_up]
      have t4 : A1 4 = if cn = 0 then upd (A 4) (p * 6 + q) (nI N.length) else A 4 := by rw [hA1]; split <;> simp [va_up]
      have t5 : ∀ k, 5 ≤ k → A1 k = A k := by intro k hk; rw [hA1]; split; exact va_up_ne _ _ (by omega); rfl
      refine rz_blk' [(.aload_n 0, 1, 0, 0), (.getfield 31, 3, 4, 8), (.iload 4, 2, 0, 0), (.dup2, 1, 0, 0), (.iaload, 1, 0, 0), (.iconst 1, 1, 0, 0), (.iadd, 1, 0, 0), (.iastore, 1, 0, 0)] (by decide +kernel) (Nat.le_refl _) (Nat.le_refl _) (fun K R hK hR => ?_)
      simp only [rw_c1, ↓rx_aload_n0, ↓rx_dup2, ↓rx_getfield, ↓rx_iadd, ↓rx_iaload, ↓rx_iastore, ↓rx_iconst, ↓rx_iload, ↓rx_nil, ↓ry_fvs, ↓ry_fvz, ↓ry_i2, ↓ry_iau, ↓ry_li0s, ↓ry_li0z, ↓ry_lr0s, ↓ry_lr0z, ↓ry_obu, ↓ry_r1, ↓ry_ri, ↓ry_rii, ↓ry_v2, true_and, ↓ps_ob, ↓ps_i1, ↓ps_n1, ↓ps_i2, ↓ps_n2, ↓ps_i3, ↓ps_n3, ↓ps_r4, ↓ps_r5, ↓ps_i6, ↓ps_n6, ↓ps_i7, ↓ps_n7, ↓ps_i8, ↓ps_n8, ↓ps_i9, ↓ps_n9, ↓ps_i10, ↓ps_n10, ↓ps_i11, ↓ps_n11, ps_a6, t3, rz_set, rz_nol, rz_clr, List.set_cons_zero, List.set_cons_succ, rz_tr, Nat.reduceAdd, Int.reduceAdd, Int.reduceToNat, Int.reduceSub, Int.reduceNeg, Int.cast_ofNat_Int]
      rw [nI_clamp (by omega), k1, nI_add]
      refine ⟨vp_in_nI (by omega) (by decide), vp_in_nI (by omega) (by decide), hK _ _ _ _ ?_⟩
      refine rz_blk' [(.aload_n 0, 1, 0, 0), (.getfield 11, 3, 4, 3), (.aload_n 0, 1, 0, 0), (.getfield 66, 3, 4, 2), (.iload_n 1, 1, 0, 0), (.iastore, 1, 0, 0)] (by decide +kernel) (Nat.le_refl _) (Nat.le_refl _) (fun K R hK hR => ?_)
      simp only [↓rx_aload_n0, ↓rx_getfield, ↓rx_iastore, ↓rx_iload_n1, ↓rx_nil, ↓ry_fvs, ↓ry_fvz, ↓ry_iau, ↓ry_li0s, ↓ry_li0z, ↓ry_lr0s, ↓ry_lr0z, ↓ry_obu, ↓ry_r1, ↓ry_rii, true_and, ↓ps_ob, ↓ps_i1, ↓ps_n1, ↓ps_i2, ↓ps_n2, ↓ps_i3, ↓ps_n3, ↓ps_r4, ↓ps_r5, ↓ps_i6, ↓ps_n6, ↓ps_i7, ↓ps_n7, ↓ps_i8, ↓ps_n8, ↓ps_i9, ↓ps_n9, ↓ps_i10, ↓ps_n10, ↓ps_i11, ↓ps_n11, ps_a1, a1, rz_set, rz_nol, rz_clr, List.set_cons_zero, List.set_cons_succ, rz_tr, Nat.reduceAdd, Int.reduceAdd, Int.reduceToNat, Int.reduceSub, Int.reduceNeg, Int.cast_ofNat_Int]
      rw [nI_clamp (by omega)]
      refine ⟨vp_in_nI (by omega) (by decide), hK _ _ _ _ ?_⟩
      refine rz_blk' [(.aload_n 0, 1, 0, 0), (.getfield 15, 3, 4, 4), (.aload_n 0, 1, 0, 0), (.getfield 66, 3, 4, 2), (.iload_n 2, 1, 0, 0), (.iastore, 1, 0, 0)] (by decide +kernel) (Nat.le_refl _) (Nat.le_refl _) (fun K R hK hR => ?_)
      simp only [↓rx_aload_n0, ↓rx_getfield, ↓rx_iastore, ↓rx_iload_n2, ↓rx_nil, ↓ry_fvs, ↓ry_fvz, ↓ry_iau, ↓ry_li0s, ↓ry_li0z, ↓ry_lr0s, ↓ry_lr0z, ↓ry_obu, ↓ry_r1, ↓ry_rii, true_and, ↓ps_ob, ↓ps_i1, ↓ps_n1, ↓ps_i2, ↓ps_n2, ↓ps_i3, ↓ps_n3, ↓ps_r4, ↓ps_r5, ↓ps_i6, ↓ps_n6, ↓ps_i7, ↓ps_n7, ↓ps_i8, ↓ps_n8, ↓ps_i9, ↓ps_n9, ↓ps_i10, ↓ps_n10, ↓ps_i11, ↓ps_n11, ps_a2, a1, rz_set, rz_nol, rz_clr, List.set_cons_zero, List.set_cons_succ, rz_tr, Nat.reduceAdd, Int.reduceAdd, Int.reduceToNat, Int.reduceSub, Int.reduceNeg, Int.cast_ofNat_Int]
      rw [nI_clamp (by omega)]
      refine ⟨vp_in_nI (by omega) (by decide), hK _ _ _ _ ?_⟩
      refine rz_blk' [(.aload_n 0, 1, 0, 0), (.getfield 18, 3, 4, 5), (.aload_n 0, 1, 0, 0), (.getfield 66, 3, 4, 2), (.iload_n 3, 1, 0, 0), (.bastore, 1, 0, 0)] (by decide +kernel) (Nat.le_refl _) (Nat.le_refl _) (fun K R hK hR => ?_)
      simp only [Nat.reduceEqDiff, false_or, or_false, or_true, reduceIte, ↓rx_aload_n0, ↓rx_bastore, ↓rx_getfield, ↓rx_iload_n3, ↓rx_nil, ↓ry_fvs, ↓ry_fvz, ↓ry_iau, ↓ry_li0s, ↓ry_li0z, ↓ry_lr0s, ↓ry_lr0z, ↓ry_obu, ↓ry_r1, ↓ry_rii, true_and, true_or, ↓ps_ob, ↓ps_i1, ↓ps_n1, ↓ps_i2, ↓ps_n2, ↓ps_i3, ↓ps_n3, ↓ps_r4, ↓ps_r5, ↓ps_i6, ↓ps_n6, ↓ps_i7, ↓ps_n7, ↓ps_i8, ↓ps_n8, ↓ps_i9, ↓ps_n9, ↓ps_i10, ↓ps_n10, ↓ps_i11, ↓ps_n11, ps_a3, a1, rz_set, rz_nol, rz_clr, List.set_cons_zero, List.set_cons_succ, rz_tr, Nat.reduceAdd, Int.reduceAdd, Int.reduceToNat, Int.reduceSub, Int.reduceNeg, Int.cast_ofNat_Int]
      rw [nI_clamp (by omega)]
      have enb : vp_nar .boolean (rz_b ap) = rz_b ap := by cases ap <;> rfl
      rw [enb]
      refine ⟨vp_in_nI (by omega) (by decide), hK _ _ _ _ ?_⟩
      generalize hA2 : va_up (va_up (va_up (va_up A1 3 _) 0 _) 1 _) 2 _ = A2
      have s0 : A2 0 = upd (A 0) N.length (nI p) := by rw [← hA2]; simp [va_up, t0]
      have s1 : A2 1 = upd (A 1) N.length (nI q) := by rw [← hA2]; simp [va_up, t1]
      have s2 : A2 2 = upd (A 2) N.length (rz_b ap) := by rw [← hA2]; simp [va_up, t2]
      have s3 : A2 3 = upd (A 3) (p * 6 + q) (nI (cn + 1)) := by rw [← hA2]; simp [va_up]
      have s4 : A2 4 = if cn = 0 then upd (A 4) (p * 6 + q) (nI N.length) else A 4 := by rw [← hA2, ← t4]; simp [va_up]
      have s5 : ∀ k, 5 ≤ k → A2 k = A k := by
        intro k hk
        rw [← hA2, va_up_ne _ _ (by omega), va_up_ne _ _ (by omega), va_up_ne _ _ (by omega), va_up_ne _ _ (by omega)]
        exact t5 k hk
      have w2 := ps_wi (G := G) (a := a) (I := I) (A := A2) (J := J) (X := X) (P := P) (j := 2 * N.length) (by omega) (a3 _ (by omega))
      refine rz_blk' [(.aload_n 0, 1, 0, 0), (.getfield 24, 3, 4, 6), (.aload_n 0, 1, 0, 0), (.getfield 66, 3, 4, 2), (.aaload, 1, 0, 0), (.aload_n 0, 1, 0, 0), (.getfield 52, 3, 4, 16)] (by decide +kernel) (Nat.le_refl _) (Nat.le_refl _) (fun K R hK hR => ?_)
      simp only [Nat.reduceEqDiff, false_or, or_false, or_true, reduceIte, ↓rx_aaload, ↓rx_aload_n0, ↓rx_getfield, ↓rx_nil, ↓ry_fvs, ↓ry_fvz, ↓ry_lr0s, ↓ry_lr0z, ↓ry_obu, ↓ry_r1, ↓ry_ri, true_and, true_or, ↓ps_ob, ↓ps_i1, ↓ps_n1, ↓ps_i2, ↓ps_n2, ↓ps_i3, ↓ps_n3, ↓ps_r4, ↓ps_r5, ↓ps_i6, ↓ps_n6, ↓ps_i7, ↓ps_n7, ↓ps_i8, ↓ps_n8, ↓ps_i9, ↓ps_n9, ↓ps_i10, ↓ps_n10, ↓ps_i11, ↓ps_n11, a1, va_rfs, rz_set, rz_nol, rz_clr, List.set_cons_zero, List.set_cons_succ, rz_tr, Nat.reduceAdd, Int.reduceAdd, Int.reduceToNat, Int.reduceSub, Int.reduceNeg, Int.cast_ofNat_Int]
      rw [nI_clamp (by omega)]
      refine ⟨vp_in_nI (by omega) (by decide), hK _ _ _ _ ?_⟩
      refine rz_cV (As := [.ref (a + 12)]) (b := a + (16 + 2 * (2 * N.length))) (S := []) l_Pair_82 (by decide +kernel) rfl w2.1 rfl (Nat.le_of_ble_eq_true rfl) (Nat.le_refl _) (Nat.le_refl _) (c_Word_copy w2 (ps_wi12 x0) (by omega)) (fun r G' hr => ?_)
      obtain ⟨rfl, rfl⟩ := hr
      rw [ps_wp (by omega), if_pos (by omega)]
      simp only [Option.toList, List.nil_append]
      generalize hX1 : va_up X (2 + 2 * N.length) (X 0) = X1
      have u1 : X1 1 = X 1 := by rw [← hX1, va_up_ne _ _ (by omega)]
      have u0 : X1 0 = X 0 := by rw [← hX1, va_up_ne _ _ (by omega)]
      have o1 : wd_ok 26 (X1 1) := by rw [u1]; exact x1
      have ux : X1 (2 + (2 * N.length + 1)) = X (2 + (2 * N.length + 1)) := by rw [← hX1, va_up_ne _ _ (by omega)]
      have w3 := ps_wi (G := G) (a := a) (I := I) (A := A2) (J := J) (X := X1) (P := P) (j := 2 * N.length + 1) (by omega) (by rw [ux]; exact a3 _ (by omega))
      refine rz_blk' [(.aload_n 0, 1, 0, 0), (.getfield 28, 3, 4, 7), (.aload_n 0, 1, 0, 0), (.getfield 66, 3, 4, 2), (.aaload, 1, 0, 0), (.aload_n 0, 1, 0, 0), (.getfield 56, 3, 4, 17)] (by decide +kernel) (Nat.le_refl _) (Nat.le_refl _) (fun K R hK hR => ?_)
      simp only [Nat.reduceEqDiff, false_or, or_false, or_true, reduceIte, ↓rx_aaload, ↓rx_aload_n0, ↓rx_getfield, ↓rx_nil, ↓ry_fvs, ↓ry_fvz, ↓ry_lr0s, ↓ry_lr0z, ↓ry_obu, ↓ry_r1, ↓ry_ri, true_and, true_or, ↓ps_ob, ↓ps_i1, ↓ps_n1, ↓ps_i2, ↓ps_n2, ↓ps_i3, ↓ps_n3, ↓ps_r4, ↓ps_r5, ↓ps_i6, ↓ps_n6, ↓ps_i7, ↓ps_n7, ↓ps_i8, ↓ps_n8, ↓ps_i9, ↓ps_n9, ↓ps_i10, ↓ps_n10, ↓ps_i11, ↓ps_n11, a1, va_rfs, rz_set, rz_nol, rz_clr, List.set_cons_zero, List.set_cons_succ, rz_tr, Nat.reduceAdd, Int.reduceAdd, Int.reduceToNat, Int.reduceSub, Int.reduceNeg, Int.cast_ofNat_Int]
      rw [nI_clamp (by omega)]
      refine ⟨vp_in_nI (by omega) (by decide), hK _ _ _ _ ?_⟩
      refine rz_cV (As := [.ref (a + 14)]) (b := a + (16 + 2 * (2 * N.length + 1))) (S := []) l_Pair_82 (by decide +kernel) rfl w3.1 rfl (Nat.le_of_ble_eq_true rfl) (Nat.le_refl _) (Nat.le_refl _) (c_Word_copy w3 (ps_wi14 o1) (by omega)) (fun r G' hr => ?_)
      obtain ⟨rfl, rfl⟩ := hr
      rw [ps_wp (by omega), u1, if_pos (by omega)]
      simp only [Option.toList, List.nil_append]
      generalize hX2 : va_up X1 (2 + (2 * N.length + 1)) (X 1) = X2
      have v0 : X2 0 = X 0 := by rw [← hX2, va_up_ne _ _ (by omega), u0]
      have v1 : X2 1 = X 1 := by rw [← hX2, va_up_ne _ _ (by omega), u1]
      have va : X2 (2 + 2 * N.length) = X 0 := by rw [← hX2, va_up_ne _ _ (by omega), ← hX1, va_up_self]
      have vb : X2 (2 + (2 * N.length + 1)) = X 1 := by rw [← hX2, va_up_self]
      have vo : ∀ j, 2 ≤ j → j ≠ 2 + 2 * N.length → j ≠ 2 + (2 * N.length + 1) → X2 j = X j := fun j _ q1 q2 => by rw [← hX2, va_up_ne _ _ q2, ← hX1, va_up_ne _ _ q1]
      have vok : ∀ j, j < 146 → wd_ok 26 (X2 j) := by
        intro j hj
        by_cases q1 : j = 2 + 2 * N.length
        · rw [q1, va]; exact x0
        · by_cases q2 : j = 2 + (2 * N.length + 1)
          · rw [q2, vb]; exact x1
          · rw [← hX2, va_up_ne _ _ q2, ← hX1, va_up_ne _ _ q1]; exact a3 j hj
      refine rz_blk' [(.aload_n 0, 1, 0, 0), (.dup, 1, 0, 0), (.getfield 66, 3, 4, 2), (.iconst 1, 1, 0, 0), (.iadd, 1, 0, 0), (.putfield 66, 3, 4, 2)] (by decide +kernel) (Nat.le_refl _) (Nat.le_refl _) (fun K R hK hR => ?_)
      simp only [List.length_cons, List.length_nil, Nat.reduceLT, rf_4_2, rw_c1, ↓rx_aload_n0, ↓rx_dup, ↓rx_getfield, ↓rx_iadd, ↓rx_iconst, ↓rx_nil, ↓rx_putfield, ↓ry_fvs, ↓ry_fvz, ↓ry_i2, ↓ry_lr0s, ↓ry_lr0z, ↓ry_obu, ↓ry_r1, ↓ry_v1i, ↓ry_v1r, ↓ry_vr, true_and, ↓ps_ob, ↓ps_i1, ↓ps_n1, ↓ps_i2, ↓ps_n2, ↓ps_i3, ↓ps_n3, ↓ps_r4, ↓ps_r5, ↓ps_i6, ↓ps_n6, ↓ps_i7, ↓ps_n7, ↓ps_i8, ↓ps_n8, ↓ps_i9, ↓ps_n9, ↓ps_i10, ↓ps_n10, ↓ps_i11, ↓ps_n11, ps_u2, a1, nI_add, rz_set, rz_nol, rz_clr, List.set_cons_zero, List.set_cons_succ, rz_tr, Nat.reduceAdd, Int.reduceAdd, Int.reduceToNat, Int.reduceSub, Int.reduceNeg, Int.cast_ofNat_Int]
      refine hK _ _ _ _ ?_
      have hI1 : upd I 0 (nI (N.length + 1)) 1 = I 1 := pk_un (by decide)
      have hI2 : upd I 0 (nI (N.length + 1)) 2 = I 2 := pk_un (by decide)
      have hnn : ps_ns (upd I 0 (nI (N.length + 1))) A2 X2 (N ++ [(p, q, ap, X 0, X 1)]) := ps_ns_add hN hnew hp hq pk_us vok vo va vb s0 s1 s2 (by rw [hcn]; exact s3) (by rw [hcn]; exact s4)
      have hdone : ∀ X3 : Nat → List Nat, ps_ns (upd I 0 (nI (N.length + 1))) A2 X3 (N ++ [(p, q, ap, X 0, X 1)]) → ¬ (I 2 = -1 ∧ ps_ea m1 m2 c1 c2 p q ap (X 0) (X 1) = true) → rz_T w (d + 2) 0 0 m_Pair_visit 0 0 185 [some (.ref a), some (.int (nI p)), some (.int (nI q)), some (.int (rz_b ap)), some (.int (nI (p * 6 + q)))] [] (ps_put G a (upd I 0 (nI (N.length + 1))) A2 J X3 P) (fun r G' => r = none ∧ ps_vp G a J P I A X N (p, q, ap, X 0, X 1) (ps_ea m1 m2 c1 c2 p q ap (X 0) (X 1)) G') := by
        intro X3 q1 q2
        refine rz_blk' [(.return_, 1, 0, 0)] (by decide +kernel) (Nat.le_refl _) (Nat.le_refl _) (fun K R hK hR => ?_)
        simp only [↓rx_nil, ↓rx_return_, ↓ps_ob, ↓ps_i1, ↓ps_n1, ↓ps_i2, ↓ps_n2, ↓ps_i3, ↓ps_n3, ↓ps_r4, ↓ps_r5, ↓ps_i6, ↓ps_n6, ↓ps_i7, ↓ps_n7, ↓ps_i8, ↓ps_n8, ↓ps_i9, ↓ps_n9, ↓ps_i10, ↓ps_n10, ↓ps_i11, ↓ps_n11, rz_set, rz_nol, rz_clr, List.set_cons_zero, List.set_cons_succ, rz_tr, Nat.reduceAdd, Int.reduceAdd, Int.reduceToNat, Int.reduceSub, Int.reduceNeg, Int.cast_ofNat_Int]
        exact hR _ _ (rz_nb_i (by decide)) ⟨rfl, Or.inr ⟨hnew, _, _, _, rfl, q1, hI1, by rw [hI2, if_neg q2], s5⟩⟩
      refine rz_blk' [(.aload_n 0, 1, 0, 0), (.getfield 73, 3, 4, 15), (.iconst (-1), 1, 0, 0), (.if_icmp .ne 21, 3, 0, 0), (.aload_n 0, 1, 0, 0), (.iload_n 1, 1, 0, 0), (.iload_n 2, 1, 0, 0), (.iload_n 3, 1, 0, 0)] (by decide +kernel) (Nat.le_refl _) (Nat.le_refl _) (fun K R hK hR => ?_)
      simp only [rw_cm1, ↓rx_aload_n0, ↓rx_getfield, ↓rx_iconst, ↓rx_if_icmp_ne, ↓rx_iload_n1, ↓rx_iload_n2, ↓rx_iload_n3, ↓rx_nil, ↓ry_fvs, ↓ry_fvz, ↓ry_i2, ↓ry_li0s, ↓ry_li0z, ↓ry_lr0s, ↓ry_lr0z, ↓ry_obu, ↓ry_r1, ↓ps_ob, ↓ps_i1, ↓ps_n1, ↓ps_i2, ↓ps_n2, ↓ps_i3, ↓ps_n3, ↓ps_r4, ↓ps_r5, ↓ps_i6, ↓ps_n6, ↓ps_i7, ↓ps_n7, ↓ps_i8, ↓ps_n8, ↓ps_i9, ↓ps_n9, ↓ps_i10, ↓ps_n10, ↓ps_i11, ↓ps_n11, hI2, rz_set, rz_nol, rz_clr, List.set_cons_zero, List.set_cons_succ, rz_tr, Nat.reduceAdd, Int.reduceAdd, Int.reduceToNat, Int.reduceSub, Int.reduceNeg, Int.cast_ofNat_Int]
      refine ⟨fun b1 => hK _ _ _ _ (hdone X2 hnn (fun q => b1 q.1)), fun b1 => hK _ _ _ _ ?_⟩
      refine rz_cV (As := [.int (nI p), .int (nI q), .int (rz_b ap)]) (b := a) (S := []) l_Pair_145 (by decide +kernel) rfl ps_at0 rfl (Nat.le_of_ble_eq_true rfl) (Nat.le_refl _) (Nat.le_refl _) (c_Pair_endsApart h1 h2 hp hq (vok 0 (by decide)) (vok 1 (by decide)) (by rw [v0]; exact l0) (by rw [v1]; exact l1)) (fun r G' hr => ?_)
      obtain ⟨rfl, u, v, hu, hv, rfl⟩ := hr
      simp only [Option.toList, List.cons_append, List.nil_append]
      rw [v0, v1]
      have hn3 := ps_keep01 hnn hu hv
      refine rz_blk' [(.ifCond .eq 11, 3, 0, 0)] (by decide +kernel) (Nat.le_refl _) (Nat.le_refl _) (fun K R hK hR => ?_)
      simp only [↓rx_ifCond_eq, ↓rx_nil, ↓ry_i1, ↓ps_ob, ↓ps_i1, ↓ps_n1, ↓ps_i2, ↓ps_n2, ↓ps_i3, ↓ps_n3, ↓ps_r4, ↓ps_r5, ↓ps_i6, ↓ps_n6, ↓ps_i7, ↓ps_n7, ↓ps_i8, ↓ps_n8, ↓ps_i9, ↓ps_n9, ↓ps_i10, ↓ps_n10, ↓ps_i11, ↓ps_n11, rz_set, rz_nol, rz_clr, List.set_cons_zero, List.set_cons_succ, rz_tr, Nat.reduceAdd, Int.reduceAdd, Int.reduceToNat, Int.reduceSub, Int.reduceNeg, Int.cast_ofNat_Int]
      rw [rz_b_0]
      refine ⟨fun b2 => hK _ _ _ _ (hdone _ hn3 (fun q => by rw [b2] at q; simp at q)), fun b2 => hK _ _ _ _ ?_⟩
      have b2 : ps_ea m1 m2 c1 c2 p q ap (X 0) (X 1) = true := by simpa using b2
      refine rz_blk' [(.aload_n 0, 1, 0, 0), (.aload_n 0, 1, 0, 0), (.getfield 70, 3, 4, 10), (.putfield 73, 3, 4, 15), (.return_, 1, 0, 0)] (by decide +kernel) (Nat.le_refl _) (Nat.le_refl _) (fun K R hK hR => ?_)
      simp only [List.length_cons, List.length_nil, Nat.reduceLT, rf_4_15, ↓rx_aload_n0, ↓rx_getfield, ↓rx_nil, ↓rx_putfield, ↓rx_return_, ↓ry_fvs, ↓ry_fvz, ↓ry_lr0s, ↓ry_lr0z, ↓ry_obu, ↓ry_r1, ↓ry_vr, true_and, ↓ps_ob, ↓ps_i1, ↓ps_n1, ↓ps_i2, ↓ps_n2, ↓ps_i3, ↓ps_n3, ↓ps_r4, ↓ps_r5, ↓ps_i6, ↓ps_n6, ↓ps_i7, ↓ps_n7, ↓ps_i8, ↓ps_n8, ↓ps_i9, ↓ps_n9, ↓ps_i10, ↓ps_n10, ↓ps_i11, ↓ps_n11, ps_u15, rz_set, rz_nol, rz_clr, List.set_cons_zero, List.set_cons_succ, rz_tr, Nat.reduceAdd, Int.reduceAdd, Int.reduceToNat, Int.reduceSub, Int.reduceNeg, Int.cast_ofNat_Int]
      refine hR _ _ (rz_nb_i (by decide)) ⟨rfl, Or.inr ⟨hnew, upd (upd I 0 (nI (N.length + 1))) 2 (upd I 0 (nI (N.length + 1)) 1), A2, _, rfl, ps_keepI hn3 (pk_un (by decide)) (fun _ _ => rfl), (pk_un (by decide)).trans hI1, by rw [pk_us, hI1, if_pos ⟨b1, b2⟩], s5⟩⟩
    refine rz_blk' [(.aload_n 0, 1, 0, 0), (.getfield 31, 3, 4, 8), (.iload 4, 2, 0, 0), (.iaload, 1, 0, 0), (.ifCond .ne 14, 3, 0, 0)] (by decide +kernel) (Nat.le_refl _) (Nat.le_refl _) (fun K R hK hR => ?_)
    simp only [↓rx_aload_n0, ↓rx_getfield, ↓rx_iaload, ↓rx_ifCond_ne, ↓rx_iload, ↓rx_nil, ↓ry_fvs, ↓ry_fvz, ↓ry_i1, ↓ry_iau, ↓ry_li0s, ↓ry_li0z, ↓ry_lr0s, ↓ry_lr0z, ↓ry_obu, ↓ry_r1, ↓ry_ri, true_and, ↓ps_ob, ↓ps_i1, ↓ps_n1, ↓ps_i2, ↓ps_n2, ↓ps_i3, ↓ps_n3, ↓ps_r4, ↓ps_r5, ↓ps_i6, ↓ps_n6, ↓ps_i7, ↓ps_n7, ↓ps_i8, ↓ps_n8, ↓ps_i9, ↓ps_n9, ↓ps_i10, ↓ps_n10, ↓ps_i11, ↓ps_n11, rz_set, rz_nol, rz_clr, List.set_cons_zero, List.set_cons_succ, rz_tr, Nat.reduceAdd, Int.reduceAdd, Int.reduceToNat, Int.reduceSub, Int.reduceNeg, Int.cast_ofNat_Int]
    rw [nI_clamp (by omega), k1, hp_z, nI_eq (by omega) (by omega)]
    refine ⟨vp_in_nI (by omega) (by decide), fun b1 => hK _ _ _ _ (hfin A (by rw [if_neg b1])), fun b1 => hK _ _ _ _ ?_⟩
    refine rz_blk' [(.aload_n 0, 1, 0, 0), (.getfield 34, 3, 4, 9), (.iload 4, 2, 0, 0), (.aload_n 0, 1, 0, 0), (.getfield 66, 3, 4, 2), (.iastore, 1, 0, 0)] (by decide +kernel) (Nat.le_refl _) (Nat.le_refl _) (fun K R hK hR => ?_)
    simp only [↓rx_aload_n0, ↓rx_getfield, ↓rx_iastore, ↓rx_iload, ↓rx_nil, ↓ry_fvs, ↓ry_fvz, ↓ry_iau, ↓ry_li0s, ↓ry_li0z, ↓ry_lr0s, ↓ry_lr0z, ↓ry_obu, ↓ry_r1, ↓ry_rii, true_and, ↓ps_ob, ↓ps_i1, ↓ps_n1, ↓ps_i2, ↓ps_n2, ↓ps_i3, ↓ps_n3, ↓ps_r4, ↓ps_r5, ↓ps_i6, ↓ps_n6, ↓ps_i7, ↓ps_n7, ↓ps_i8, ↓ps_n8, ↓ps_i9, ↓ps_n9, ↓ps_i10, ↓ps_n10, ↓ps_i11, ↓ps_n11, ps_a7, a1, rz_set, rz_nol, rz_clr, List.set_cons_zero, List.set_cons_succ, rz_tr, Nat.reduceAdd, Int.reduceAdd, Int.reduceToNat, Int.reduceSub, Int.reduceNeg, Int.cast_ofNat_Int]
    rw [nI_clamp (by omega)]
    exact ⟨vp_in_nI (by omega) (by decide), hK _ _ _ _ (hfin _ (by rw [if_pos b1]))⟩
  have hnod : ps_cnt N p q < 2 → ps_1st N p q ≠ some (p, q, ap, X 0, X 1) → rz_T w (d + 2) 0 0 m_Pair_visit 0 0 45 [some (.ref a), some (.int (nI p)), some (.int (nI q)), some (.int (rz_b ap)), some (.int (nI (p * 6 + q)))] [] (ps_put G a I A J X P) (fun r G' => r = none ∧ ps_vp G a J P I A X N (p, q, ap, X 0, X 1) (ps_ea m1 m2 c1 c2 p q ap (X 0) (X 1)) G') := by
    intro e1 e2
    refine rz_blk' [(.aload_n 0, 1, 0, 0), (.getfield 66, 3, 4, 2), (.bipush 72, 2, 0, 0), (.if_icmp .lt 4, 3, 0, 0)] (by decide +kernel) (Nat.le_refl _) (Nat.le_refl _) (fun K R hK hR => ?_)
    simp only [rw_b72, ↓rx_aload_n0, ↓rx_bipush, ↓rx_getfield, ↓rx_if_icmp_lt, ↓rx_nil, ↓ry_fvs, ↓ry_fvz, ↓ry_i2, ↓ry_lr0s, ↓ry_lr0z, ↓ry_obu, ↓ry_r1, ↓ps_ob, ↓ps_i1, ↓ps_n1, ↓ps_i2, ↓ps_n2, ↓ps_i3, ↓ps_n3, ↓ps_r4, ↓ps_r5, ↓ps_i6, ↓ps_n6, ↓ps_i7, ↓ps_n7, ↓ps_i8, ↓ps_n8, ↓ps_i9, ↓ps_n9, ↓ps_i10, ↓ps_n10, ↓ps_i11, ↓ps_n11, a1, rz_set, rz_nol, rz_clr, List.set_cons_zero, List.set_cons_succ, rz_tr, Nat.reduceAdd, Int.reduceAdd, Int.reduceToNat, Int.reduceSub, Int.reduceNeg, Int.cast_ofNat_Int]
    rw [nI_ltI (by omega) (by omega)]
    refine ⟨fun b1 => hK _ _ _ _ (hgo ?_), fun b1 => hK _ _ _ _ (hskip ?_)⟩
    · simp only [ps_new, Bool.and_eq_true, decide_eq_true_eq, Bool.not_eq_true', decide_eq_false_iff_not]
      exact ⟨⟨e1, e2⟩, b1⟩
    · simp only [ps_new, Bool.and_eq_false_iff, decide_eq_false_iff_not]
      exact Or.inr b1
  refine rz_blk' [(.aload_n 0, 1, 0, 0), (.getfield 31, 3, 4, 8), (.iload 4, 2, 0, 0), (.iaload, 1, 0, 0), (.iconst 2, 1, 0, 0), (.if_icmp .ge 38, 3, 0, 0), (.aload_n 0, 1, 0, 0), (.getfield 31, 3, 4, 8), (.iload 4, 2, 0, 0), (.iaload, 1, 0, 0), (.iconst 1, 1, 0, 0), (.if_icmp .ne 18, 3, 0, 0), (.aload_n 0, 1, 0, 0), (.aload_n 0, 1, 0, 0), (.getfield 34, 3, 4, 9), (.iload 4, 2, 0, 0), (.iaload, 1, 0, 0), (.iload_n 3, 1, 0, 0)] (by decide +kernel) (Nat.le_refl _) (Nat.le_refl _) (fun K R hK hR => ?_)
  simp only [rw_c1, rw_c2, ↓rx_aload_n0, ↓rx_getfield, ↓rx_iaload, ↓rx_iconst, ↓rx_if_icmp_ge, ↓rx_if_icmp_ne, ↓rx_iload, ↓rx_iload_n3, ↓rx_nil, ↓ry_fvs, ↓ry_fvz, ↓ry_i2, ↓ry_iau, ↓ry_li0s, ↓ry_li0z, ↓ry_lr0s, ↓ry_lr0z, ↓ry_obu, ↓ry_r1, ↓ry_ri, true_and, ↓ps_ob, ↓ps_i1, ↓ps_n1, ↓ps_i2, ↓ps_n2, ↓ps_i3, ↓ps_n3, ↓ps_r4, ↓ps_r5, ↓ps_i6, ↓ps_n6, ↓ps_i7, ↓ps_n7, ↓ps_i8, ↓ps_n8, ↓ps_i9, ↓ps_n9, ↓ps_i10, ↓ps_n10, ↓ps_i11, ↓ps_n11, rz_set, rz_nol, rz_clr, List.set_cons_zero, List.set_cons_succ, rz_tr, Nat.reduceAdd, Int.reduceAdd, Int.reduceToNat, Int.reduceSub, Int.reduceNeg, Int.cast_ofNat_Int]
  rw [nI_clamp (by omega), k1, nI_leI (by omega) (by omega), nI_eq (by omega) (by omega)]
  refine ⟨vp_in_nI (by omega) (by decide), fun b1 => hK _ _ _ _ (hskip ?_), fun b1 => ⟨vp_in_nI (by omega) (by decide), fun b2 => hK _ _ _ _ (hnod (by omega) ?_), fun b2 => ⟨vp_in_nI (by omega) (by decide), hK _ _ _ _ ?_⟩⟩⟩
  · simp only [ps_new, Bool.and_eq_false_iff, decide_eq_false_iff_not]
    exact Or.inl (Or.inl (by rw [hcn]; omega))
  · rw [ps_1st_0 (by omega)]; simp
  obtain ⟨i, n, e1, e2, e3⟩ := k3 (by omega)
  have hil := (List.getElem?_eq_some_iff.mp e2).1
  obtain ⟨n0, n1, n2, n3, n4, n5, n6⟩ := a4 i n e2
  have hpq : n.1 = p ∧ n.2.1 = q := by
    have := List.find?_some e3
    simpa [ps_pq] using this
  rw [e1]
  refine rz_cV (As := [.int (nI i), .int (rz_b ap)]) (b := a) (S := []) l_Pair_141 (by decide +kernel) rfl ps_at0 rfl (Nat.le_of_ble_eq_true rfl) (Nat.le_refl _) (Nat.le_refl _) (c_Pair_isNode (by omega) n2 x0 x1 (a3 _ (by omega)) (a3 _ (by omega))) (fun r G' hr => ?_)
  obtain ⟨rfl, hg⟩ := hr
  have hg := hg.symm
  subst hg
  simp only [Option.toList, List.cons_append, List.nil_append]
  have hiff : (n.2.2.1 = ap ∧ X (2 + 2 * i) = X 0 ∧ X (2 + (2 * i + 1)) = X 1) ↔ ps_1st N p q = some (p, q, ap, X 0, X 1) := by
    rw [e3, n3, n4]
    obtain ⟨y1, y2, y3, y4, y5⟩ := n
    simp only [Option.some.injEq, Prod.mk.injEq]
    dsimp only at hpq
    simp [hpq.1, hpq.2]
  by_cases b3 : n.2.2.1 = ap ∧ X (2 + 2 * i) = X 0 ∧ X (2 + (2 * i + 1)) = X 1
  · rw [if_pos b3]
    refine rz_blk' [(.ifCond .ne 12, 3, 0, 0)] (by decide +kernel) (Nat.le_refl _) (Nat.le_refl _) (fun K R hK hR => ?_)
    simp only [↓rx_ifCond_ne, ↓rx_nil, ↓ry_i1, ↓ps_ob, ↓ps_i1, ↓ps_n1, ↓ps_i2, ↓ps_n2, ↓ps_i3, ↓ps_n3, ↓ps_r4, ↓ps_r5, ↓ps_i6, ↓ps_n6, ↓ps_i7, ↓ps_n7, ↓ps_i8, ↓ps_n8, ↓ps_i9, ↓ps_n9, ↓ps_i10, ↓ps_n10, ↓ps_i11, ↓ps_n11, rz_set, rz_nol, rz_clr, List.set_cons_zero, List.set_cons_succ, rz_tr, Nat.reduceAdd, Int.reduceAdd, Int.reduceToNat, Int.reduceSub, Int.reduceNeg, Int.cast_ofNat_Int]
    refine ⟨fun b4 => hK _ _ _ _ (hskip ?_), fun b4 => absurd b4 (by decide)⟩
    simp only [ps_new, Bool.and_eq_false_iff, decide_eq_false_iff_not, Bool.not_eq_false', decide_eq_true_eq]
    exact Or.inl (Or.inr (hiff.mp b3))
  · rw [if_neg b3]
    refine rz_blk' [(.ifCond .ne 12, 3, 0, 0)] (by decide +kernel) (Nat.le_refl _) (Nat.le_refl _) (fun K R hK hR => ?_)
    simp only [↓rx_ifCond_ne, ↓rx_nil, ↓ry_i1, ↓ps_ob, ↓ps_i1, ↓ps_n1, ↓ps_i2, ↓ps_n2, ↓ps_i3, ↓ps_n3, ↓ps_r4, ↓ps_r5, ↓ps_i6, ↓ps_n6, ↓ps_i7, ↓ps_n7, ↓ps_i8, ↓ps_n8, ↓ps_i9, ↓ps_n9, ↓ps_i10, ↓ps_n10, ↓ps_i11, ↓ps_n11, rz_set, rz_nol, rz_clr, List.set_cons_zero, List.set_cons_succ, rz_tr, Nat.reduceAdd, Int.reduceAdd, Int.reduceToNat, Int.reduceSub, Int.reduceNeg, Int.cast_ofNat_Int]
    exact ⟨fun b4 => absurd trivial b4, fun b4 => hK _ _ _ _ (hnod (by omega) (fun q => b3 (hiff.mpr q)))⟩

