/-! WriterDesk: outputsDiffer, hasOneOutputEach -/
/-- the rests in a search over the machines as they are told: three signs a letter -/
def dk_ok (k : Nat) (n : ps_nd) : Prop := n.2.2.2.1.length ≤ 3 + 3 * k ∧ n.2.2.2.2.length ≤ 3 + 3 * k ∧ (∀ x ∈ n.2.2.2.1, x < 16) ∧ ∀ x ∈ n.2.2.2.2, x < 16
theorem ps_clm {xs ys : List Nat} : (ps_cl xs ys).length ≤ xs.length ∧ (ps_cr xs ys).length ≤ ys.length ∧ (∀ x ∈ ps_cl xs ys, x ∈ xs) ∧ ∀ x ∈ ps_cr xs ys, x ∈ ys := by
  refine ⟨?_, ?_, fun x hx => ?_, fun x hx => ?_⟩
  · simp only [ps_cl]; split
    · simp
    · rw [List.length_drop]; omega
  · simp only [ps_cr]; split
    · simp
    · rw [List.length_drop]; omega
  · simp only [ps_cl] at hx; split at hx
    · cases hx
    · exact List.mem_of_mem_drop hx
  · simp only [ps_cr] at hx; split at hx
    · cases hx
    · exact List.mem_of_mem_drop hx
theorem dk_ok_go {m1 m2 : mv_T} {k e f : Nat} {n : ps_nd} (w1 : mv_w3 m1) (w2 : mv_w3 m2) (he : e < m1.2.1.length) (hf : f < m2.2.1.length) (h : dk_ok k n) : dk_ok (k + 1) (ps_go m1 m2 n e f) := by
  obtain ⟨h1, h2, h3, h4⟩ := h
  obtain ⟨a1, a2⟩ := w1.1 e he
  obtain ⟨b1, b2⟩ := w2.1 f hf
  have hc := ps_clm (xs := n.2.2.2.1 ++ (mv_e m1 e).2.2.2) (ys := n.2.2.2.2 ++ (mv_e m2 f).2.2.2)
  rw [List.length_append, List.length_append] at hc
  refine ⟨?_, ?_, fun x hx => ?_, fun x hx => ?_⟩
  · simp only [ps_go, ps_f0]; split
    · omega
    · omega
  · simp only [ps_go, ps_f1]; split
    · omega
    · omega
  · simp only [ps_go, ps_f0] at hx; split at hx
    · exact h3 x hx
    · rcases List.mem_append.mp (hc.2.2.1 x hx) with q | q
      · exact h3 x q
      · have := a2 x q; omega
  · simp only [ps_go, ps_f1] at hx; split at hx
    · exact h4 x hx
    · rcases List.mem_append.mp (hc.2.2.2 x hx) with q | q
      · exact h4 x q
      · have := b2 x q; omega
theorem mv_pl_lt {m : mv_T} {al p e : Nat} (h : e ∈ mv_pl m al p) : e < m.2.1.length := (mv_pk_mem h).1
theorem dk_okS {m1 m2 : mv_T} {c1 c2 : Nat} (w1 : mv_w3 m1) (w2 : mv_w3 m2) : ∀ k n, k < 72 → dk_ok k n → ∀ l, l < 3 → ps_sh m1 m2 c1 c2 l n ∧ ∀ n' ∈ ps_nx m1 m2 c1 c2 l n, dk_ok (k + 1) n' := by
  intro k n hk h l hl
  have wo : ∀ (k : Nat) (xs : List Nat), k ≤ 72 → xs.length ≤ 3 + 3 * k → (∀ x ∈ xs, x < 16) → wd_ok 26 xs := fun k xs hk h1 h2 => ⟨by omega, h2, by decide⟩
  refine ⟨⟨wo k _ (by omega) h.1 h.2.2.1, wo k _ (by omega) h.2.1 h.2.2.2, by have := h.1; omega, by have := h.2.1; omega, fun e f he hf => ?_⟩, fun n' hn' => ?_⟩
  · have h2 := dk_ok_go w1 w2 (mv_pl_lt he) (mv_pl_lt hf) h
    exact ⟨wo (k + 1) _ (by omega) h2.1 h2.2.2.1, wo (k + 1) _ (by omega) h2.2.1 h2.2.2.2, by have := h2.1; omega, by have := h2.2.1; omega⟩
  · simp only [ps_nx, ps_c2, List.mem_flatMap, List.mem_map] at hn'
    obtain ⟨e, he, f, hf, rfl⟩ := hn'
    exact dk_ok_go w1 w2 (mv_pl_lt he) (mv_pl_lt hf) h
/-- the first pair, the whole search -/
def df_n (m1 m2 : mv_T) : ps_nd := (0, 0, ps_ap m1.2.2.2 m2.2.2.2, ps_cl m1.2.2.2 m2.2.2.2, ps_cr m1.2.2.2 m2.2.2.2)
def df_N (m1 m2 : mv_T) : List ps_nd × Option Nat := if mv_al m1 (mk_cl m1) = 0 ∨ mv_al m2 (mk_cl m2) = 0 then ([], none) else ps_vs m1 m2 (mk_cl m1) (mk_cl m2) 0 ([], none) (df_n m1 m2)
def df_S (m1 m2 : mv_T) : ps_sT := ps_lo m1 m2 (mk_cl m1) (mk_cl m2) 73 0 (ps_s0 (df_N m1 m2).1 (df_N m1 m2).2)
theorem df_n_ok {m1 m2 : mv_T} (w1 : mv_w3 m1) (w2 : mv_w3 m2) : dk_ok 0 (df_n m1 m2) := by
  have hc := ps_clm (xs := m1.2.2.2) (ys := m2.2.2.2)
  have a1 := w1.2.2.1
  have a2 := w2.2.2.1
  exact ⟨by show (ps_cl _ _).length ≤ _; omega, by show (ps_cr _ _).length ≤ _; omega, fun x hx => by have := w1.2.2.2 x (hc.2.2.1 x hx); omega, fun x hx => by have := w2.2.2.2 x (hc.2.2.2 x hx); omega⟩
theorem df_N_ok {m1 m2 : mv_T} (w1 : mv_w3 m1) (w2 : mv_w3 m2) : (∀ n ∈ (df_N m1 m2).1, dk_ok 0 n) ∧ ∀ g, (df_N m1 m2).2 = some g → g = 0 ∧ (df_N m1 m2).1 ≠ [] := by
  simp only [df_N]
  split
  · exact ⟨fun n hn => (by cases hn), fun g hg => (by cases hg)⟩
  · simp only [ps_vs]
    split
    · refine ⟨fun n hn => ?_, fun g hg => ⟨?_, by simp⟩⟩
      · rw [List.nil_append, List.mem_singleton] at hn; rw [hn]; exact df_n_ok w1 w2
      · split at hg
        · exact (Option.some.inj hg).symm
        · cases hg
    · exact ⟨fun n hn => (by cases hn), fun g hg => (by cases hg)⟩
/-- machine k is settled -/
def dk_st (G : rz_G) (z : Nat) (V : dk_V) (k : Nat) : Prop := ∃ S : mc_S, mc_is G (z + (1582 + 70 * k)) S.1 S.2.1 S.2.2.1 S.2.2.2.1 S.2.2.2.2 ∧ mv_is S.1 S.2.1 S.2.2.2.1 (V.1 k) (mk_cl (V.1 k)) ∧ mv_set S.1 S.2.1 (V.1 k) (mk_cl (V.1 k)) ∧ mv_w3 (V.1 k)
theorem dk_st_keep {G G' : rz_G} {z k : Nat} {V : dk_V} (h : dk_st G z V k) (hk : ∀ x, z + (1582 + 70 * k) ≤ x → x < z + (1582 + 70 * k) + 70 → G' x = G x) : dk_st G' z V k := by
  obtain ⟨S, h1, h2⟩ := h
  exact ⟨S, fun o ho => (hk _ (by omega) (by omega)).trans (h1 o ho), h2⟩
/-- the pairs' search stands at its end -/
def dk_pf (G : rz_G) (z : Nat) (S : ps_sT) : Prop := ∃ (I : Nat → Int32) (A : Nat → Nat → Int32) (J : Nat → Nat → Int64) (X : Nat → List Nat) (P : Nat → Nat) (A5 : Nat → Nat → Int32), ps_is G (z + 18) I A J X P ∧ ps_ss I A X S.2.1 S.2.2 S.1.length A5 ∧ ps_gi dk_ok A5 S
theorem dk_pf_keep {G G' : rz_G} {z : Nat} {S : ps_sT} (h : dk_pf G z S) (hk : ∀ x, z + 18 ≤ x → x < z + 322 → G' x = G x) : dk_pf G' z S := by
  obtain ⟨I, A, J, X, P, A5, h1, h2⟩ := h
  exact ⟨I, A, J, X, P, A5, fun o ho => (hk _ (by omega) (by omega)).trans (h1 o ho), h2⟩
theorem dk_upp {V : dk_V} {G : rz_G} {z : Nat} {I : Nat → Int32} {A : Nat → Nat → Int32} {J : Nat → Nat → Int64} {X : Nat → List Nat} {P : Nat → Nat} (h : dk G z V) (hX : ps_xo X) : (dk (ps_put G (z + 18) I A J X P) z V ∧ dk_fr z G (ps_put G (z + 18) I A J X P)) ∧ ∀ j, dk_st G z V j → dk_st (ps_put G (z + 18) I A J X P) z V j :=
  ⟨dk_mod' h 4 (by decide) (fun x hx => ps_out hx) ⟨I, A, J, X, _, _, ps_is0_of (fun o ho => ps_at ho), hX⟩, fun j hj => dk_st_keep hj (fun x h1 h2 => ps_out (by omega))⟩
set_option maxRecDepth 100000 in
set_option maxHeartbeats 4000000 in
theorem c_Desk_outputsDiffer {w : rz_w} {d : Nat} {G : rz_G} {z : Nat} {V : dk_V} (h : dk G z V) {k1 k2 : Nat} (h1 : dk_st G z V k1) (h2 : dk_st G z V k2) : rz_C w (d + 5) 0 0 y_Desk_outputsDiffer m_Desk_outputsDiffer [.ref z, .ref (z + (1582 + 70 * k1)), .ref (z + (1582 + 70 * k2))] G (fun r G' => r = some (.int (rz_b (df_S (V.1 k1) (V.1 k2)).2.2.isSome)) ∧ (dk G' z V ∧ dk_fr z G G') ∧ (∀ j, dk_st G z V j → dk_st G' z V j) ∧ dk_pf G' z (df_S (V.1 k1) (V.1 k2)) ∧ ∀ x, x < z + 18 ∨ z + 322 ≤ x → G' x = G x) := by
  obtain ⟨hob, hma⟩ := h 0 (by decide)
  obtain ⟨I0, A0, J0, X0, v00, v01, hp0, hx0⟩ := h 4 (by decide)
  obtain ⟨S1, c1, m1, s1, w1⟩ := id h1
  obtain ⟨S2, c2, m2, s2, w2⟩ := id h2
  refine rz_enter' [some (.ref z), some (.ref (z + (1582 + 70 * k1))), some (.ref (z + (1582 + 70 * k2)))] (by decide +kernel) rfl rfl (Nat.le_of_ble_eq_true rfl) rfl ?_
  refine rz_blk' [(.aload_n 0, 1, 0, 0), (.getfield 37, 3, 9, 4), (.aload_n 1, 1, 0, 0), (.aload_n 2, 1, 0, 0)] (by decide +kernel) (Nat.le_refl _) (Nat.le_refl _) (fun K R hK hR => ?_)
  simp only [↓rx_aload_n0, ↓rx_aload_n1, ↓rx_aload_n2, ↓rx_getfield, ↓rx_nil, ↓ry_fvs, ↓ry_fvz, ↓ry_lr0s, ↓ry_lr0z, ↓ry_obu, ↓ry_r1, ↓rh_ob hob, dk_fs, rz_set, rz_nol, rz_clr, List.set_cons_zero, List.set_cons_succ, rz_tr, Nat.reduceAdd, Int.reduceAdd, Int.reduceToNat, Int.reduceSub, Int.reduceNeg, Int.cast_ofNat_Int]
  refine hK _ _ _ _ ?_
  have hb := c_Pair_begin0 (w := w) (d := d + 3) hp0 (z + (1582 + 70 * k1)) (z + (1582 + 70 * k2))
  refine rz_cV (As := [.ref (z + (1582 + 70 * k1)), .ref (z + (1582 + 70 * k2))]) (b := z + 18) (S := []) l_Desk_210 (by decide +kernel) rfl hp0.2 rfl (Nat.le_of_ble_eq_true rfl) (Nat.le_refl _) (Nat.le_refl _) (hb) (fun r G' hr => ?_)
  obtain ⟨rfl, I1, A1, P1, rfl, i0, i1, i2, i8, i5, i3, p0, p1⟩ := hr
  simp only [Option.toList, List.nil_append]
  have ob1 : ∀ I A X P, ps_put G (z + 18) I A J0 X P (z + (1582 + 70 * k1)) = some (.inr (2, mc_fs (z + (1582 + 70 * k1)) S1.1 S1.2.2.2.2)) := fun I A X P => by rw [ps_out (by omega)]; exact mc_c c1
  have ob2 : ∀ I A X P, ps_put G (z + 18) I A J0 X P (z + (1582 + 70 * k2)) = some (.inr (2, mc_fs (z + (1582 + 70 * k2)) S2.1 S2.2.2.2.2)) := fun I A X P => by rw [ps_out (by omega)]; exact mc_c c2
  have obz : ∀ I A X P, ps_put G (z + 18) I A J0 X P z = some (.inr (9, dk_fs z V.2.2.2)) := fun I A X P => by rw [ps_out (by omega)]; exact hob
  have a1 : S1.1 4 = nI (mv_al (V.1 k1) (mk_cl (V.1 k1))) := s1.2.1
  have a2 : S2.1 4 = nI (mv_al (V.1 k2) (mk_cl (V.1 k2))) := s2.2.1
  have l1 := mv_al64 m1
  have l2 := mv_al64 m2
  have t1 : mc_at' G (P1 0) (z + 18) 304 S1 (V.1 k1) (mk_cl (V.1 k1)) := ⟨by rw [p0]; exact c1, m1, s1, by rw [p0]; unfold mc_ap; omega⟩
  have t2 : mc_at' G (P1 1) (z + 18) 304 S2 (V.1 k2) (mk_cl (V.1 k2)) := ⟨by rw [p1]; exact c2, m2, s2, by rw [p1]; unfold mc_ap; omega⟩
  obtain ⟨nk, nf⟩ := df_N_ok w1 w2
  have hfin : ∀ I A X, ps_ss I A X (df_N (V.1 k1) (V.1 k2)).1 (df_N (V.1 k1) (V.1 k2)).2 0 A1 → rz_T w (d + 5) 0 0 m_Desk_outputsDiffer 0 0 40 [some (.ref z), some (.ref (z + (1582 + 70 * k1))), some (.ref (z + (1582 + 70 * k2)))] [] (ps_put G (z + 18) I A J0 X P1) (fun r G' => r = some (.int (rz_b (df_S (V.1 k1) (V.1 k2)).2.2.isSome)) ∧ (dk G' z V ∧ dk_fr z G G') ∧ (∀ j, dk_st G z V j → dk_st G' z V j) ∧ dk_pf G' z (df_S (V.1 k1) (V.1 k2)) ∧ ∀ x, x < z + 18 ∨ z + 322 ≤ x → G' x = G x) := by
    intro I A X hS
    refine rz_blk' [(.aload_n 0, 1, 0, 0), (.getfield 37, 3, 9, 4)] (by decide +kernel) (Nat.le_refl _) (Nat.le_refl _) (fun K R hK hR => ?_)
    simp only [↓rx_aload_n0, ↓rx_getfield, ↓rx_nil, ↓ry_fvs, ↓ry_fvz, ↓ry_lr0s, ↓ry_lr0z, ↓ry_obu, ↓ry_r1, ↓rh_ob (obz _ _ _ _), dk_fs, rz_set, rz_nol, rz_clr, List.set_cons_zero, List.set_cons_succ, rz_tr, Nat.reduceAdd, Int.reduceAdd, Int.reduceToNat, Int.reduceSub, Int.reduceNeg, Int.cast_ofNat_Int]
    refine hK _ _ _ _ ?_
    refine rz_cV (As := []) (b := z + 18) (S := []) l_Desk_218 (by decide +kernel) rfl ps_at0 rfl (Nat.le_of_ble_eq_true rfl) (Nat.le_refl _) (Nat.le_refl _) (c_Pair_search (d := d) (Ok := dk_ok) t1 t2 (dk_okS w1 w2) hS i5 i8 nk nf rfl) (fun r G' hr => ?_)
    obtain ⟨I', A', X', A5, rfl, rfl, hs', hg'⟩ := hr
    simp only [Option.toList, List.cons_append, List.nil_append]
    refine rz_blk' [(.ireturn, 1, 0, 0)] (by decide +kernel) (Nat.le_refl _) (Nat.le_refl _) (fun K R hK hR => ?_)
    simp only [↓rx_ireturn, ↓rx_nil, rz_set, rz_nol, rz_clr, List.set_cons_zero, List.set_cons_succ, rz_tr, Nat.reduceAdd, Int.reduceAdd, Int.reduceToNat, Int.reduceSub, Int.reduceNeg, Int.cast_ofNat_Int]
    have hu := dk_upp (I := I') (A := A') (J := J0) (X := X') (P := P1) h hs'.1.2.2.1
    exact hR _ _ rz_b_nb ⟨rfl, hu.1, hu.2, ⟨I', A', J0, X', P1, A5, fun o ho => ps_at ho, hs', hg'⟩, fun x hx => ps_out hx⟩
  refine rz_blk' [(.aload_n 1, 1, 0, 0), (.getfield 124, 3, 2, 10), (.ifCond .eq 27, 3, 0, 0)] (by decide +kernel) (Nat.le_refl _) (Nat.le_refl _) (fun K R hK hR => ?_)
  simp only [↓rx_aload_n1, ↓rx_getfield, ↓rx_ifCond_eq, ↓rx_nil, ↓ry_fvs, ↓ry_fvz, ↓ry_i1, ↓ry_lr0s, ↓ry_lr0z, ↓ry_obu, ↓ry_r1, ↓rh_ob (ob1 _ _ _ _), mc_fs, a1, rz_set, rz_nol, rz_clr, List.set_cons_zero, List.set_cons_succ, rz_tr, Nat.reduceAdd, Int.reduceAdd, Int.reduceToNat, Int.reduceSub, Int.reduceNeg, Int.cast_ofNat_Int]
  have hs0 : ps_ss I1 A1 X0 [] none 0 A1 := ps_ss0 hx0 i0 i1 i2 i3
  by_cases z1 : mv_al (V.1 k1) (mk_cl (V.1 k1)) = 0
  · rw [z1]
    refine ⟨fun _ => hK _ _ _ _ (hfin I1 A1 X0 ?_), fun q => absurd rfl q⟩
    simp only [df_N, z1, true_or, if_true]
    exact hs0
  refine ⟨fun q => absurd q (nI_ne0 (by omega) (by omega)), fun _ => hK _ _ _ _ ?_⟩
  refine rz_blk' [(.aload_n 2, 1, 0, 0), (.getfield 124, 3, 2, 10), (.ifCond .eq 20, 3, 0, 0)] (by decide +kernel) (Nat.le_refl _) (Nat.le_refl _) (fun K R hK hR => ?_)
  simp only [↓rx_aload_n2, ↓rx_getfield, ↓rx_ifCond_eq, ↓rx_nil, ↓ry_fvs, ↓ry_fvz, ↓ry_i1, ↓ry_lr0s, ↓ry_lr0z, ↓ry_obu, ↓ry_r1, ↓rh_ob (ob2 _ _ _ _), mc_fs, a2, rz_set, rz_nol, rz_clr, List.set_cons_zero, List.set_cons_succ, rz_tr, Nat.reduceAdd, Int.reduceAdd, Int.reduceToNat, Int.reduceSub, Int.reduceNeg, Int.cast_ofNat_Int]
  by_cases z2 : mv_al (V.1 k2) (mk_cl (V.1 k2)) = 0
  · rw [z2]
    refine ⟨fun _ => hK _ _ _ _ (hfin I1 A1 X0 ?_), fun q => absurd rfl q⟩
    simp only [df_N, z2, or_true, if_true]
    exact hs0
  refine ⟨fun q => absurd q (nI_ne0 (by omega) (by omega)), fun _ => hK _ _ _ _ ?_⟩
  refine rz_blk' [(.aload_n 0, 1, 0, 0), (.getfield 37, 3, 9, 4), (.iconst 0, 1, 0, 0), (.iconst 0, 1, 0, 0), (.aload_n 1, 1, 0, 0), (.getfield 118, 3, 2, 6), (.aload_n 2, 1, 0, 0), (.getfield 118, 3, 2, 6)] (by decide +kernel) (Nat.le_refl _) (Nat.le_refl _) (fun K R hK hR => ?_)
  simp only [rw_c0, ↓rx_aload_n0, ↓rx_aload_n1, ↓rx_aload_n2, ↓rx_getfield, ↓rx_iconst, ↓rx_nil, ↓ry_fvs, ↓ry_fvz, ↓ry_lr0s, ↓ry_lr0z, ↓ry_obu, ↓ry_r1, ↓rh_ob (obz _ _ _ _), ↓rh_ob (ob1 _ _ _ _), ↓rh_ob (ob2 _ _ _ _), mc_fs, dk_fs, rz_set, rz_nol, rz_clr, List.set_cons_zero, List.set_cons_succ, rz_tr, Nat.reduceAdd, Int.reduceAdd, Int.reduceToNat, Int.reduceSub, Int.reduceNeg, Int.cast_ofNat_Int]
  refine hK _ _ _ _ ?_
  have o1 : wd_is G (z + (1582 + 70 * k1) + 5) 3 (V.1 k1).2.2.2 := by
    have := mc_is_wo c1 m1.2.2.2.2.2.2.2.2.2.2.2.2
    rw [m1.2.2.2.2.2.2.2.2.2.2.2.1] at this; exact this
  have o2 : wd_is G (z + (1582 + 70 * k2) + 5) 3 (V.1 k2).2.2.2 := by
    have := mc_is_wo c2 m2.2.2.2.2.2.2.2.2.2.2.2.2
    rw [m2.2.2.2.2.2.2.2.2.2.2.2.1] at this; exact this
  refine rz_cV (As := [.int (nI 0), .int (nI 0), .ref (z + (1582 + 70 * k1) + 5), .ref (z + (1582 + 70 * k2) + 5)]) (b := z + 18) (S := []) l_Desk_214 (by decide +kernel) rfl ps_at0 rfl (Nat.le_of_ble_eq_true rfl) (Nat.le_refl _) (Nat.le_refl _) (c_Pair_start (d := d + 1) t1 t2 (by decide) (by decide) hs0 o1 o2 (by omega) (by omega) (by have := w1.2.2.1; omega) (by have := w2.2.2.1; omega)) (fun r G' hr => ?_)
  obtain ⟨rfl, I2, A2, X2, rfl, hs2⟩ := hr
  simp only [Option.toList, List.nil_append]
  refine hfin I2 A2 X2 ?_
  have e1 : df_N (V.1 k1) (V.1 k2) = ps_vs (V.1 k1) (V.1 k2) (mk_cl (V.1 k1)) (mk_cl (V.1 k2)) 0 ([], none) (df_n (V.1 k1) (V.1 k2)) := by
    simp only [df_N, z1, z2, or_self, if_false]
  rw [e1]
  exact hs2
set_option maxRecDepth 100000 in
set_option maxHeartbeats 4000000 in
theorem c_Desk_hasOneOutputEach {w : rz_w} {d : Nat} {G : rz_G} {z : Nat} {V : dk_V} (h : dk G z V) {k : Nat} (hk : k < 6) : rz_C w (d + 6) 0 0 y_Desk_hasOneOutputEach m_Desk_hasOneOutputEach [.ref z, .ref (z + (1582 + 70 * k))] G (fun r G' => r = some (.int (rz_b (!(df_S (V.1 k) (V.1 k)).2.2.isSome))) ∧ (dk G' z V ∧ dk_fr z G G') ∧ (dk_st G' z V k ∧ ∀ j, dk_st G z V j → dk_st G' z V j) ∧ dk_pf G' z (df_S (V.1 k) (V.1 k))) := by
  obtain ⟨hob, hma⟩ := h 0 (by decide)
  obtain ⟨S, hmc, hm, hs, h3⟩ := dk_m h hk
  refine rz_enter' [some (.ref z), some (.ref (z + (1582 + 70 * k)))] (by decide +kernel) rfl rfl (Nat.le_of_ble_eq_true rfl) rfl ?_
  refine rz_blk' [(.aload_n 1, 1, 0, 0)] (by decide +kernel) (Nat.le_refl _) (Nat.le_refl _) (fun K R hK hR => ?_)
  simp only [↓rx_aload_n1, ↓rx_nil, ↓ry_lr0s, ↓ry_lr0z, rz_set, rz_nol, rz_clr, List.set_cons_zero, List.set_cons_succ, rz_tr, Nat.reduceAdd, Int.reduceAdd, Int.reduceToNat, Int.reduceSub, Int.reduceNeg, Int.cast_ofNat_Int]
  refine hK _ _ _ _ ?_
  have hc := c_Mach_settle (w := w) (d := d + 3) (G := G) (a := z + (1582 + 70 * k)) (I := S.1) (A := S.2.1) (J := S.2.2.1) (X := S.2.2.2.1) (P := S.2.2.2.2) hm hs
  rw [mc_id hmc] at hc
  refine rz_cV (As := []) (b := z + (1582 + 70 * k)) (S := []) l_Desk_121 (by decide +kernel) rfl (mc_c hmc) rfl (Nat.le_of_ble_eq_true rfl) (Nat.le_refl _) (Nat.le_refl _) (hc) (fun r G' hr => ?_)
  obtain ⟨rfl, I', A', rfl, hm', hs'⟩ := hr
  simp only [Option.toList, List.nil_append]
  have hd := dk_same (J := S.2.2.1) (P := S.2.2.2.2) h hk hm' (Or.inr hs') h3
  have hsk : dk_st (mc_put G (z + (1582 + 70 * k)) I' A' S.2.2.1 S.2.2.2.1 S.2.2.2.2) z V k := ⟨(I', A', S.2.2.1, S.2.2.2.1, S.2.2.2.2), fun o ho => mc_at ho, hm', hs', h3⟩
  have hsj : ∀ j, dk_st G z V j → dk_st (mc_put G (z + (1582 + 70 * k)) I' A' S.2.2.1 S.2.2.2.1 S.2.2.2.2) z V j := fun j hj => by
    by_cases c : j = k
    · subst c; exact hsk
    · exact dk_st_keep hj (fun x h1 h2 => mc_out (by omega))
  generalize mc_put G (z + (1582 + 70 * k)) I' A' S.2.2.1 S.2.2.2.1 S.2.2.2.2 = G1 at *
  refine rz_blk' [(.aload_n 0, 1, 0, 0), (.aload_n 1, 1, 0, 0), (.aload_n 1, 1, 0, 0)] (by decide +kernel) (Nat.le_refl _) (Nat.le_refl _) (fun K R hK hR => ?_)
  simp only [↓rx_aload_n0, ↓rx_aload_n1, ↓rx_nil, ↓ry_lr0s, ↓ry_lr0z, rz_set, rz_nol, rz_clr, List.set_cons_zero, List.set_cons_succ, rz_tr, Nat.reduceAdd, Int.reduceAdd, Int.reduceToNat, Int.reduceSub, Int.reduceNeg, Int.cast_ofNat_Int]
  refine hK _ _ _ _ ?_
  refine rz_cV (As := [.ref (z + (1582 + 70 * k)), .ref (z + (1582 + 70 * k))]) (b := z) (S := []) l_Desk_164 (by decide +kernel) rfl (hd.1 0 (by decide)).1 rfl (Nat.le_of_ble_eq_true rfl) (Nat.le_refl _) (Nat.le_refl _) (c_Desk_outputsDiffer (d := d) hd.1 hsk hsk) (fun r G' hr => ?_)
  obtain ⟨rfl, hd2, hs2, hp2, -⟩ := hr
  simp only [Option.toList, List.cons_append, List.nil_append]
  generalize hf : (df_S (V.1 k) (V.1 k)).2.2.isSome = fb at *
  have hfin : ∀ b, (!fb) = b → rz_T w (d + 6) 0 0 m_Desk_hasOneOutputEach 0 0 18 [some (.ref z), some (.ref (z + (1582 + 70 * k)))] [.int (rz_b b)] G' (fun r G' => r = some (.int (rz_b (!fb))) ∧ (dk G' z V ∧ dk_fr z G G') ∧ (dk_st G' z V k ∧ ∀ j, dk_st G z V j → dk_st G' z V j) ∧ dk_pf G' z (df_S (V.1 k) (V.1 k))) := fun b hb => by
    refine rz_blk' [(.ireturn, 1, 0, 0)] (by decide +kernel) (Nat.le_refl _) (Nat.le_refl _) (fun K R hK hR => ?_)
    simp only [↓rx_ireturn, ↓rx_nil, rz_set, rz_nol, rz_clr, List.set_cons_zero, List.set_cons_succ, rz_tr, Nat.reduceAdd, Int.reduceAdd, Int.reduceToNat, Int.reduceSub, Int.reduceNeg, Int.cast_ofNat_Int]
    exact hR _ _ rz_b_nb ⟨by rw [hb], ⟨hd2.1, hd.2.trans hd2.2⟩, ⟨hs2 k hsk, fun j hj => hs2 j (hsj j hj)⟩, hp2⟩
  cases fb with
  | true =>
    refine rz_blk' [(.ifCond .ne 7, 3, 0, 0)] (by decide +kernel) (Nat.le_refl _) (Nat.le_refl _) (fun K R hK hR => ?_)
    simp only [↓rx_ifCond_ne, ↓rx_nil, ↓ry_i1, rz_set, rz_nol, rz_clr, List.set_cons_zero, List.set_cons_succ, rz_tr, Nat.reduceAdd, Int.reduceAdd, Int.reduceToNat, Int.reduceSub, Int.reduceNeg, Int.cast_ofNat_Int]
    refine ⟨fun _ => hK _ _ _ _ ?_, fun q => absurd q (by decide)⟩
    refine rz_blk' [(.iconst 0, 1, 0, 0)] (by decide +kernel) (Nat.le_refl _) (Nat.le_refl _) (fun K R hK hR => ?_)
    simp only [rw_c0, ↓rx_iconst, ↓rx_nil, rz_set, rz_nol, rz_clr, List.set_cons_zero, List.set_cons_succ, rz_tr, Nat.reduceAdd, Int.reduceAdd, Int.reduceToNat, Int.reduceSub, Int.reduceNeg, Int.cast_ofNat_Int]
    rw [show nI 0 = rz_b false from by decide]
    exact hK _ _ _ _ (hfin false rfl)
  | false =>
    refine rz_blk' [(.ifCond .ne 7, 3, 0, 0), (.iconst 1, 1, 0, 0), (.goto 4, 3, 0, 0)] (by decide +kernel) (Nat.le_refl _) (Nat.le_refl _) (fun K R hK hR => ?_)
    simp only [rw_c1, ↓rx_goto, ↓rx_iconst, ↓rx_ifCond_ne, ↓rx_nil, ↓ry_i1, rz_set, rz_nol, rz_clr, List.set_cons_zero, List.set_cons_succ, rz_tr, Nat.reduceAdd, Int.reduceAdd, Int.reduceToNat, Int.reduceSub, Int.reduceNeg, Int.cast_ofNat_Int]
    rw [show nI 1 = rz_b true from by decide]
    refine ⟨fun q => absurd rfl q, fun _ => hK _ _ _ _ (hfin true rfl)⟩
