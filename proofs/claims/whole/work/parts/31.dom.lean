/-! WriterDesk$DomainSearch: search -/
abbrev dm_sT := List dm_nd × Option Nat
def dm_gn (D : List dm_nd) (i : Nat) : dm_nd := D.getD i (0, 0, 0, 0)
def dm_stp (m1 m2 : mv_T) (c1 c2 i l : Nat) (S : dm_sT) : dm_sT := dm_v m1 m2 c1 c2 S (mv_af m1 (mv_al m1 c1) (dm_gn S.1 i).1 l, mv_af m2 (mv_al m2 c2) (dm_gn S.1 i).2.1 l, i, l)
def dm_ll (m1 m2 : mv_T) (c1 c2 i : Nat) : Nat → Nat → dm_sT → dm_sT
  | 0, _, S => S
  | k + 1, l, S => if S.2 = none then dm_ll m1 m2 c1 c2 i k (l + 1) (dm_stp m1 m2 c1 c2 i l S) else S
def dm_lo (m1 m2 : mv_T) (c1 c2 : Nat) : Nat → Nat → dm_sT → dm_sT
  | 0, _, S => S
  | k + 1, i, S => if S.2 = none ∧ i < S.1.length ∧ i < 4096 then dm_lo m1 m2 c1 c2 k (i + 1) (dm_ll m1 m2 c1 c2 i 3 0 S) else S
def dm_ss (I : Nat → Int32) (A : Nat → Nat → Int32) (S : dm_sT) : Prop := dm_ns I A S.1 S.1.length ∧ I 1 = ps_fo S.2 ∧ ∀ g, S.2 = some g → g < S.1.length
theorem dm_v_fd {m1 m2 : mv_T} {c1 c2 : Nat} {S : dm_sT} {n : dm_nd} (h : ∀ g, S.2 = some g → g < S.1.length) : ∀ g, (dm_v m1 m2 c1 c2 S n).2 = some g → g < (dm_v m1 m2 c1 c2 S n).1.length := by
  intro g hg
  simp only [dm_v] at hg ⊢
  split
  · next q =>
    rw [if_pos q] at hg
    simp only [List.length_append, List.length_singleton]
    dsimp only at hg
    split at hg
    · cases hg; omega
    · have := h g hg; omega
  · next q => rw [if_neg q] at hg; exact h g hg
theorem dm_v_len {m1 m2 : mv_T} {c1 c2 : Nat} {S : dm_sT} {n : dm_nd} : S.1.length ≤ (dm_v m1 m2 c1 c2 S n).1.length := by
  simp only [dm_v]; split
  · simp
  · exact Nat.le_refl _
theorem dm_v_get {m1 m2 : mv_T} {c1 c2 i : Nat} {S : dm_sT} {n : dm_nd} (h : i < S.1.length) : dm_gn (dm_v m1 m2 c1 c2 S n).1 i = dm_gn S.1 i := by
  simp only [dm_v]; split
  · simp [dm_gn, List.getElem?_append_left h]
  · rfl
section DMQ
variable {w : rz_w} {d : Nat} {G : rz_G} {a : Nat} {J : Nat → Nat → Int64} {X : Nat → List Nat} {P : Nat → Nat} {S1 S2 : mc_S} {m1 m2 : mv_T} {c1 c2 a1 a2 : Nat} {Q : Option Value → rz_G → Prop}
set_option maxRecDepth 100000 in
set_option maxHeartbeats 4000000 in
theorem dm_se_l (h1 : mc_at' G a1 a 5 S1 m1 c1) (h2 : mc_at' G a2 a 5 S2 m2 c2) {i s t : Nat} (hi : i < 4096) (hs : s < 64) (ht : t < 64) :
    ∀ (k l : Nat) (S : dm_sT) (I : Nat → Int32) (A : Nat → Nat → Int32), l + k = 3 → i < S.1.length → (dm_gn S.1 i).1 = s → (dm_gn S.1 i).2.1 = t → dm_ss I A S →
      (∀ I A z4 z5 z6, dm_ss I A (dm_ll m1 m2 c1 c2 i k l S) → S.1.length ≤ (dm_ll m1 m2 c1 c2 i k l S).1.length → rz_T w (d + 2) 0 0 m_Dom_search 0 0 158 [some (.ref a), some (.ref a1), some (.ref a2), some (.int (nI i)), z4, z5, z6] [] (dm_put G a I A J X P) Q) →
      rz_T w (d + 2) 0 0 m_Dom_search 0 0 87 [some (.ref a), some (.ref a1), some (.ref a2), some (.int (nI i)), some (.int (nI s)), some (.int (nI t)), some (.int (nI l))] [] (dm_put G a I A J X P) Q := by
  intro k
  induction k with
  | zero =>
    intro l S I A hk hiS es et hS hc
    refine rz_blk' [(.aload_n 0, 1, 0, 0), (.getfield 35, 3, 5, 5), (.iconst (-1), 1, 0, 0), (.if_icmp .ne 66, 3, 0, 0), (.iload 6, 2, 0, 0), (.iconst 3, 1, 0, 0), (.if_icmp .ge 60, 3, 0, 0)] (by decide +kernel) (Nat.le_refl _) (Nat.le_refl _) (fun K R hK hR => ?_)
    simp only [rw_c3, rw_cm1, ↓rx_aload_n0, ↓rx_getfield, ↓rx_iconst, ↓rx_if_icmp_ge, ↓rx_if_icmp_ne, ↓rx_iload, ↓rx_nil, ↓ry_fvs, ↓ry_fvz, ↓ry_i2, ↓ry_li0s, ↓ry_li0z, ↓ry_lr0s, ↓ry_lr0z, ↓ry_obu, ↓ry_r1, ↓dm_ob, ↓dm_i1, ↓dm_n1, ↓dm_i2, ↓dm_n2, ↓dm_i3, ↓dm_n3, ↓dm_i4, ↓dm_n4, rz_set, rz_nol, rz_clr, List.set_cons_zero, List.set_cons_succ, rz_tr, Nat.reduceAdd, Int.reduceAdd, Int.reduceToNat, Int.reduceSub, Int.reduceNeg, Int.cast_ofNat_Int]
    rw [hS.2.1, dm_fo_n (fun g hg => by have := hS.2.2 g hg; have := hS.1.2.1; omega), nI_leI (by omega) (by omega)]
    exact ⟨fun q => hK _ _ _ _ (hc I A _ _ _ hS (Nat.le_refl _)), fun q => ⟨fun q2 => hK _ _ _ _ (hc I A _ _ _ hS (Nat.le_refl _)), fun q2 => by omega⟩⟩
  | succ k ih =>
    intro l S I A hk hiS es et hS hc
    simp only [dm_ll] at hc
    obtain ⟨n, f1, f2⟩ := id hS
    have hmc1 : ∀ I A, mc_is (dm_put G a I A J X P) a1 S1.1 S1.2.1 S1.2.2.1 S1.2.2.2.1 S1.2.2.2.2 := fun I A => dm_mc h1
    have hmc2 : ∀ I A, mc_is (dm_put G a I A J X P) a2 S2.1 S2.2.1 S2.2.2.1 S2.2.2.2.1 S2.2.2.2.2 := fun I A => dm_mc h2
    obtain ⟨-, hm1, hs1, ha1⟩ := id h1
    obtain ⟨-, hm2, hs2, ha2⟩ := id h2
    have i1 := fun I A => c_Mach_after (w := w) (d := d) (G := dm_put G a I A J X P) (a := a1) (I := S1.1) (A := S1.2.1) (J := S1.2.2.1) (X := S1.2.2.2.1) (P := S1.2.2.2.2) (s := s) (l := l) hm1 hs1 hs (by omega)
    have i2 := fun I A => c_Mach_after (w := w) (d := d) (G := dm_put G a I A J X P) (a := a2) (I := S2.1) (A := S2.2.1) (J := S2.2.2.1) (X := S2.2.2.2.1) (P := S2.2.2.2.2) (s := t) (l := l) hm2 hs2 ht (by omega)
    simp only [mc_id (hmc1 _ _)] at i1
    simp only [mc_id (hmc2 _ _)] at i2
    have ob1 : ∀ I A, (dm_put G a I A J X P) a1 = some (.inr (2, mc_fs a1 S1.1 S1.2.2.2.2)) := fun I A => hmc1 I A 0 (by decide)
    have ob2 : ∀ I A, (dm_put G a I A J X P) a2 = some (.inr (2, mc_fs a2 S2.1 S2.2.2.2.2)) := fun I A => hmc2 I A 0 (by decide)
    have g1 : mv_af m1 (mv_al m1 c1) s l < 64 := mv_ak64 hm1 _
    have g2 : mv_af m2 (mv_al m2 c2) t l < 64 := mv_ak64 hm2 _
    refine rz_blk' [(.aload_n 0, 1, 0, 0), (.getfield 35, 3, 5, 5), (.iconst (-1), 1, 0, 0), (.if_icmp .ne 66, 3, 0, 0), (.iload 6, 2, 0, 0), (.iconst 3, 1, 0, 0), (.if_icmp .ge 60, 3, 0, 0), (.aload_n 0, 1, 0, 0), (.aload_n 1, 1, 0, 0), (.aload_n 2, 1, 0, 0), (.aload_n 1, 1, 0, 0), (.iload 4, 2, 0, 0), (.iload 6, 2, 0, 0)] (by decide +kernel) (Nat.le_refl _) (Nat.le_refl _) (fun K R hK hR => ?_)
    simp only [rw_c3, rw_cm1, ↓rx_aload_n0, ↓rx_aload_n1, ↓rx_aload_n2, ↓rx_getfield, ↓rx_iconst, ↓rx_if_icmp_ge, ↓rx_if_icmp_ne, ↓rx_iload, ↓rx_nil, ↓ry_fvs, ↓ry_fvz, ↓ry_i2, ↓ry_li0s, ↓ry_li0z, ↓ry_lr0s, ↓ry_lr0z, ↓ry_obu, ↓ry_r1, ↓dm_ob, ↓dm_i1, ↓dm_n1, ↓dm_i2, ↓dm_n2, ↓dm_i3, ↓dm_n3, ↓dm_i4, ↓dm_n4, rz_set, rz_nol, rz_clr, List.set_cons_zero, List.set_cons_succ, rz_tr, Nat.reduceAdd, Int.reduceAdd, Int.reduceToNat, Int.reduceSub, Int.reduceNeg, Int.cast_ofNat_Int]
    rw [f1, dm_fo_n (fun g hg => by have := f2 g hg; have := n.2.1; omega), nI_leI (by omega) (by omega)]
    refine ⟨fun q => hK _ _ _ _ ?_, fun q => ⟨fun q2 => by omega, fun q2 => hK _ _ _ _ ?_⟩⟩
    · rw [if_neg q] at hc; exact hc I A _ _ _ hS (Nat.le_refl _)
    rw [if_pos q] at hc
    refine rz_cV (As := [.int (nI s), .int (nI l)]) (b := a1) (S := [.ref a2, .ref a1, .ref a]) l_Dom_47 (by decide +kernel) rfl (ob1 _ _) rfl (Nat.le_of_ble_eq_true rfl) (Nat.le_refl _) (Nat.le_refl _) (i1 _ _) (fun r G' hr => ?_)
    obtain ⟨rfl, hg⟩ := hr
    have hg := hg.symm
    subst hg
    simp only [Option.toList, List.cons_append, List.nil_append]
    refine rz_blk' [(.aload_n 2, 1, 0, 0), (.iload 5, 2, 0, 0), (.iload 6, 2, 0, 0)] (by decide +kernel) (Nat.le_refl _) (Nat.le_refl _) (fun K R hK hR => ?_)
    simp only [↓rx_aload_n2, ↓rx_iload, ↓rx_nil, ↓ry_li0s, ↓ry_li0z, ↓ry_lr0s, ↓ry_lr0z, ↓dm_ob, ↓dm_i1, ↓dm_n1, ↓dm_i2, ↓dm_n2, ↓dm_i3, ↓dm_n3, ↓dm_i4, ↓dm_n4, rz_set, rz_nol, rz_clr, List.set_cons_zero, List.set_cons_succ, rz_tr, Nat.reduceAdd, Int.reduceAdd, Int.reduceToNat, Int.reduceSub, Int.reduceNeg, Int.cast_ofNat_Int]
    refine hK _ _ _ _ ?_
    refine rz_cV (As := [.int (nI t), .int (nI l)]) (b := a2) (S := [.int (nI (mv_af m1 (mv_al m1 c1) s l)), .ref a2, .ref a1, .ref a]) l_Dom_47 (by decide +kernel) rfl (ob2 _ _) rfl (Nat.le_of_ble_eq_true rfl) (Nat.le_refl _) (Nat.le_refl _) (i2 _ _) (fun r G' hr => ?_)
    obtain ⟨rfl, hg⟩ := hr
    have hg := hg.symm
    subst hg
    simp only [Option.toList, List.cons_append, List.nil_append]
    refine rz_cV (As := [.ref a1, .ref a2, .int (nI (mv_af m1 (mv_al m1 c1) s l)), .int (nI (mv_af m2 (mv_al m2 c2) t l))]) (b := a) (S := []) l_Dom_43 (by decide +kernel) rfl dm_at0 rfl (Nat.le_of_ble_eq_true rfl) (Nat.le_refl _) (Nat.le_refl _) (c_Dom_visit h1 h2 g1 g2 n f1) (fun r G' hr => ?_)
    obtain ⟨rfl, I', A', rfl, hv⟩ := hr
    have hv := hv i l
    simp only [Option.toList, List.cons_append, List.nil_append]
    have hst : dm_stp m1 m2 c1 c2 i l S = dm_v m1 m2 c1 c2 (S.1, S.2) (mv_af m1 (mv_al m1 c1) s l, mv_af m2 (mv_al m2 c2) t l, i, l) := by rw [dm_stp, es, et]
    rw [← hst] at hv
    have hsl : S.1.length ≤ (dm_stp m1 m2 c1 c2 i l S).1.length := dm_v_len
    have hsg : dm_gn (dm_stp m1 m2 c1 c2 i l S).1 i = dm_gn S.1 i := dm_v_get hiS
    have hsf : ∀ g, (dm_stp m1 m2 c1 c2 i l S).2 = some g → g < (dm_stp m1 m2 c1 c2 i l S).1.length := dm_v_fd f2
    have hnext : ∀ A2, dm_ss I' A2 (dm_stp m1 m2 c1 c2 i l S) → rz_T w (d + 2) 0 0 m_Dom_search 0 0 152 [some (.ref a), some (.ref a1), some (.ref a2), some (.int (nI i)), some (.int (nI s)), some (.int (nI t)), some (.int (nI l))] [] (dm_put G a I' A2 J X P) Q := by
      intro A2 hS2
      refine rz_blk' [(.iinc 6 1, 3, 0, 0), (.goto (-68), 3, 0, 0)] (by decide +kernel) (Nat.le_refl _) (Nat.le_refl _) (fun K R hK hR => ?_)
      simp only [rw_c1, ↓rx_goto, ↓rx_iinc, ↓rx_nil, ↓ry_li0s, ↓ry_li0z, ↓dm_ob, ↓dm_i1, ↓dm_n1, ↓dm_i2, ↓dm_n2, ↓dm_i3, ↓dm_n3, ↓dm_i4, ↓dm_n4, nI_add, rz_set, rz_nol, rz_clr, List.set_cons_zero, List.set_cons_succ, rz_tr, Nat.reduceAdd, Int.reduceAdd, Int.reduceToNat, Int.reduceSub, Int.reduceNeg, Int.cast_ofNat_Int]
      refine hK _ _ _ _ (ih (l + 1) _ I' A2 (by omega) (by omega) (by rw [hsg]; exact es) (by rw [hsg]; exact et) hS2 (fun I3 A3 z4 z5 z6 t1 t2 => hc I3 A3 z4 z5 z6 t1 (by omega)))
    by_cases cw : dm_nw S.1 (mv_af m1 (mv_al m1 c1) s l) (mv_af m2 (mv_al m2 c2) t l) = true
    · rw [cw]
      have hD : (dm_stp m1 m2 c1 c2 i l S).1 = S.1 ++ [(mv_af m1 (mv_al m1 c1) s l, mv_af m2 (mv_al m2 c2) t l, i, l)] := by
        rw [hst]; simp only [dm_v, cw, if_true]
      generalize hDd : (dm_stp m1 m2 c1 c2 i l S).1 = D' at *
      have hDl : D'.length = S.1.length + 1 := by rw [hD]; simp
      obtain ⟨v0, v1, v2, v3⟩ := hv.1
      rw [hDl] at v0 v1
      refine rz_blk' [(.ifCond .eq 29, 3, 0, 0)] (by decide +kernel) (Nat.le_refl _) (Nat.le_refl _) (fun K R hK hR => ?_)
      simp only [↓rx_ifCond_eq, ↓rx_nil, ↓ry_i1, ↓dm_ob, ↓dm_i1, ↓dm_n1, ↓dm_i2, ↓dm_n2, ↓dm_i3, ↓dm_n3, ↓dm_i4, ↓dm_n4, rz_set, rz_nol, rz_clr, List.set_cons_zero, List.set_cons_succ, rz_tr, Nat.reduceAdd, Int.reduceAdd, Int.reduceToNat, Int.reduceSub, Int.reduceNeg, Int.cast_ofNat_Int]
      refine ⟨fun z => absurd z (by decide), fun _ => hK _ _ _ _ ?_⟩
      refine rz_blk' [(.aload_n 0, 1, 0, 0), (.getfield 19, 3, 5, 2), (.aload_n 0, 1, 0, 0), (.getfield 31, 3, 5, 4), (.iconst 1, 1, 0, 0), (.isub, 1, 0, 0), (.iload_n 3, 1, 0, 0), (.iastore, 1, 0, 0)] (by decide +kernel) (Nat.le_refl _) (Nat.le_refl _) (fun K R hK hR => ?_)
      simp only [rw_c1, ↓rx_aload_n0, ↓rx_getfield, ↓rx_iastore, ↓rx_iconst, ↓rx_iload_n3, ↓rx_isub, ↓rx_nil, ↓ry_fvs, ↓ry_fvz, ↓ry_i2, ↓ry_iau, ↓ry_li0s, ↓ry_li0z, ↓ry_lr0s, ↓ry_lr0z, ↓ry_obu, ↓ry_r1, ↓ry_rii, true_and, ↓dm_ob, ↓dm_i1, ↓dm_n1, ↓dm_i2, ↓dm_n2, ↓dm_i3, ↓dm_n3, ↓dm_i4, ↓dm_n4, dm_a3, v0, rz_set, rz_nol, rz_clr, List.set_cons_zero, List.set_cons_succ, rz_tr, Nat.reduceAdd, Int.reduceAdd, Int.reduceToNat, Int.reduceSub, Int.reduceNeg, Int.cast_ofNat_Int]
      rw [pk_sub (by omega), Nat.add_sub_cancel, nI_clamp (by omega)]
      refine ⟨vp_in_nI (by omega) (by decide), hK _ _ _ _ ?_⟩
      refine rz_blk' [(.aload_n 0, 1, 0, 0), (.getfield 22, 3, 5, 3), (.aload_n 0, 1, 0, 0), (.getfield 31, 3, 5, 4), (.iconst 1, 1, 0, 0), (.isub, 1, 0, 0), (.iload 6, 2, 0, 0), (.i2b, 1, 0, 0), (.bastore, 1, 0, 0)] (by decide +kernel) (Nat.le_refl _) (Nat.le_refl _) (fun K R hK hR => ?_)
      simp only [Nat.reduceEqDiff, false_or, or_false, or_true, reduceIte, rw_c1, ↓rx_aload_n0, ↓rx_bastore, ↓rx_getfield, ↓rx_i2b, ↓rx_iconst, ↓rx_iload, ↓rx_isub, ↓rx_nil, ↓ry_fvs, ↓ry_fvz, ↓ry_i1, ↓ry_i2, ↓ry_iau, ↓ry_li0s, ↓ry_li0z, ↓ry_lr0s, ↓ry_lr0z, ↓ry_obu, ↓ry_r1, ↓ry_rii, true_and, true_or, ↓dm_ob, ↓dm_i1, ↓dm_n1, ↓dm_i2, ↓dm_n2, ↓dm_i3, ↓dm_n3, ↓dm_i4, ↓dm_n4, dm_a4, v0, rz_set, rz_nol, rz_clr, List.set_cons_zero, List.set_cons_succ, rz_tr, Nat.reduceAdd, Int.reduceAdd, Int.reduceToNat, Int.reduceSub, Int.reduceNeg, Int.cast_ofNat_Int]
      rw [pk_sub (by omega), Nat.add_sub_cancel, nI_clamp (by omega)]
      refine ⟨vp_in_nI (by omega) (by decide), hK _ _ _ _ (hnext _ ⟨⟨by rw [hDd, hDl]; exact v0, by rw [hDd, hDl]; exact v1, ?_, ?_⟩, hv.2, by rw [hDd]; exact hsf⟩)⟩
      · rw [hDd]
        intro p q hp hq
        rw [va_up_ne _ _ (by decide), va_up_ne _ _ (by decide)]; exact v2 p q hp hq
      · rw [hDd]
        intro j nn hj
        obtain ⟨w1, w2, w3, w4⟩ := v3 j nn hj
        rw [va_up_ne _ _ (by decide), va_up_ne _ _ (by decide), va_up_ne (k := 3) (j := 2) _ _ (by decide), va_up_self, va_up_self, va_up_ne _ _ (by decide)]
        refine ⟨w1, w2, w3, fun j0 j1 => ?_⟩
        by_cases cj : j = S.1.length
        · subst cj
          rw [hD] at hj
          simp at hj
          subst hj
          rw [pk_us, pk_us]
          refine ⟨rfl, ?_, hiS, by dsimp only; omega⟩
          have : ∀ l, l < 3 → vp_nar .byte (nI l).toInt8.toInt32 = nI l := by decide
          exact this l (by omega)
        · rw [pk_un cj, pk_un cj]
          rw [hDl] at j1
          exact w4 j0 (by omega)
    · have cw : dm_nw S.1 (mv_af m1 (mv_al m1 c1) s l) (mv_af m2 (mv_al m2 c2) t l) = false := by simpa using cw
      rw [cw]
      have hD : (dm_stp m1 m2 c1 c2 i l S).1 = S.1 := by
        rw [hst]; simp only [dm_v, cw, Bool.false_eq_true, if_false]
      refine rz_blk' [(.ifCond .eq 29, 3, 0, 0)] (by decide +kernel) (Nat.le_refl _) (Nat.le_refl _) (fun K R hK hR => ?_)
      simp only [↓rx_ifCond_eq, ↓rx_nil, ↓ry_i1, ↓dm_ob, ↓dm_i1, ↓dm_n1, ↓dm_i2, ↓dm_n2, ↓dm_i3, ↓dm_n3, ↓dm_i4, ↓dm_n4, rz_set, rz_nol, rz_clr, List.set_cons_zero, List.set_cons_succ, rz_tr, Nat.reduceAdd, Int.reduceAdd, Int.reduceToNat, Int.reduceSub, Int.reduceNeg, Int.cast_ofNat_Int]
      refine ⟨fun _ => hK _ _ _ _ (hnext A' ⟨?_, hv.2, hsf⟩), fun z => absurd rfl z⟩
      have := hv.1
      rw [hD] at this ⊢
      exact this

set_option maxRecDepth 100000 in
set_option maxHeartbeats 4000000 in
theorem dm_se_g (h1 : mc_at' G a1 a 5 S1 m1 c1) (h2 : mc_at' G a2 a 5 S2 m2 c2) :
    ∀ (k i : Nat) (S : dm_sT) (I : Nat → Int32) (A : Nat → Nat → Int32) (z4 z5 z6 : Option Value), 4097 ≤ i + k → i ≤ 4096 → dm_ss I A S →
      (∀ I A L, dm_ss I A (dm_lo m1 m2 c1 c2 k i S) → rz_T w (d + 2) 0 0 m_Dom_search 0 0 164 (some (.ref a) :: L) [] (dm_put G a I A J X P) Q) →
      rz_T w (d + 2) 0 0 m_Dom_search 0 0 39 [some (.ref a), some (.ref a1), some (.ref a2), some (.int (nI i)), z4, z5, z6] [] (dm_put G a I A J X P) Q := by
  intro k
  induction k with
  | zero => intro i S I A z4 z5 z6 hk hi; omega
  | succ k ih =>
    intro i S I A z4 z5 z6 hk hi hS hc
    simp only [dm_lo] at hc
    obtain ⟨n, f1, f2⟩ := id hS
    have n0 := n.1
    have n1 := n.2.1
    refine rz_blk' [(.aload_n 0, 1, 0, 0), (.getfield 35, 3, 5, 5), (.iconst (-1), 1, 0, 0), (.if_icmp .ne 120, 3, 0, 0), (.iload_n 3, 1, 0, 0), (.aload_n 0, 1, 0, 0), (.getfield 31, 3, 5, 4), (.if_icmp .ge 112, 3, 0, 0), (.iload_n 3, 1, 0, 0), (.sipush 4096, 3, 0, 0), (.if_icmp .ge 105, 3, 0, 0)] (by decide +kernel) (Nat.le_refl _) (Nat.le_refl _) (fun K R hK hR => ?_)
    simp only [rw_cm1, rw_s4096, ↓rx_aload_n0, ↓rx_getfield, ↓rx_iconst, ↓rx_if_icmp_ge, ↓rx_if_icmp_ne, ↓rx_iload_n3, ↓rx_nil, ↓rx_sipush, ↓ry_fvs, ↓ry_fvz, ↓ry_i2, ↓ry_li0s, ↓ry_li0z, ↓ry_lr0s, ↓ry_lr0z, ↓ry_obu, ↓ry_r1, ↓dm_ob, ↓dm_i1, ↓dm_n1, ↓dm_i2, ↓dm_n2, ↓dm_i3, ↓dm_n3, ↓dm_i4, ↓dm_n4, n0, rz_set, rz_nol, rz_clr, List.set_cons_zero, List.set_cons_succ, rz_tr, Nat.reduceAdd, Int.reduceAdd, Int.reduceToNat, Int.reduceSub, Int.reduceNeg, Int.cast_ofNat_Int]
    rw [f1, dm_fo_n (fun g hg => by have := f2 g hg; omega), nI_leI (by omega) (by omega), nI_leI (by omega) (by omega)]
    refine ⟨fun q => hK _ _ _ _ ?_, fun q => ⟨fun q2 => hK _ _ _ _ ?_, fun q2 => ⟨fun q3 => hK _ _ _ _ ?_, fun q3 => hK _ _ _ _ ?_⟩⟩⟩
    · rw [if_neg (fun z => q z.1)] at hc; exact hc I A _ hS
    · rw [if_neg (fun z => by omega)] at hc; exact hc I A _ hS
    · rw [if_neg (fun z => by omega)] at hc; exact hc I A _ hS
    rw [if_pos ⟨q, by omega, by omega⟩] at hc
    obtain ⟨x, hx⟩ : ∃ x, S.1[i]? = some x := ⟨_, List.getElem?_eq_getElem (by omega)⟩
    obtain ⟨w1, w2, w3, w4⟩ := n.2.2.2 i x hx
    have hgn : dm_gn S.1 i = x := by simp [dm_gn, hx]
    refine rz_blk' [(.aload_n 0, 1, 0, 0), (.getfield 15, 3, 5, 1), (.iload_n 3, 1, 0, 0), (.iaload, 1, 0, 0), (.bipush 64, 2, 0, 0), (.idiv, 1, 0, 0), (.istore 4, 2, 0, 0)] (by decide +kernel) (Nat.le_refl _) (Nat.le_refl _) (fun K R hK hR => ?_)
    simp only [rw_b64, ↓rx_aload_n0, ↓rx_bipush, ↓rx_getfield, ↓rx_iaload, ↓rx_idiv, ↓rx_iload_n3, ↓rx_istore, ↓rx_nil, ↓ry_fvs, ↓ry_fvz, ↓ry_i1, ↓ry_i2, ↓ry_iau, ↓ry_li0s, ↓ry_li0z, ↓ry_lr0s, ↓ry_lr0z, ↓ry_obu, ↓ry_r1, ↓ry_ri, true_and, ↓dm_ob, ↓dm_i1, ↓dm_n1, ↓dm_i2, ↓dm_n2, ↓dm_i3, ↓dm_n3, ↓dm_i4, ↓dm_n4, rz_set, rz_nol, rz_clr, List.set_cons_zero, List.set_cons_succ, rz_tr, Nat.reduceAdd, Int.reduceAdd, Int.reduceToNat, Int.reduceSub, Int.reduceNeg, Int.cast_ofNat_Int]
    rw [nI_clamp (by omega), w1, pk_div (by omega) (by decide) (by decide), show (x.1 * 64 + x.2.1) / 64 = x.1 by omega]
    refine ⟨vp_in_nI (by omega) (by decide), by decide, hK _ _ _ _ ?_⟩
    refine rz_blk' [(.aload_n 0, 1, 0, 0), (.getfield 15, 3, 5, 1), (.iload_n 3, 1, 0, 0), (.iaload, 1, 0, 0), (.bipush 64, 2, 0, 0), (.irem, 1, 0, 0), (.istore 5, 2, 0, 0)] (by decide +kernel) (Nat.le_refl _) (Nat.le_refl _) (fun K R hK hR => ?_)
    simp only [rw_b64, ↓rx_aload_n0, ↓rx_bipush, ↓rx_getfield, ↓rx_iaload, ↓rx_iload_n3, ↓rx_irem, ↓rx_istore, ↓rx_nil, ↓ry_fvs, ↓ry_fvz, ↓ry_i1, ↓ry_i2, ↓ry_iau, ↓ry_li0s, ↓ry_li0z, ↓ry_lr0s, ↓ry_lr0z, ↓ry_obu, ↓ry_r1, ↓ry_ri, true_and, ↓dm_ob, ↓dm_i1, ↓dm_n1, ↓dm_i2, ↓dm_n2, ↓dm_i3, ↓dm_n3, ↓dm_i4, ↓dm_n4, rz_set, rz_nol, rz_clr, List.set_cons_zero, List.set_cons_succ, rz_tr, Nat.reduceAdd, Int.reduceAdd, Int.reduceToNat, Int.reduceSub, Int.reduceNeg, Int.cast_ofNat_Int]
    rw [nI_clamp (by omega), w1, pk_rem (by omega) (by decide) (by decide), show (x.1 * 64 + x.2.1) % 64 = x.2.1 by omega]
    refine ⟨vp_in_nI (by omega) (by decide), by decide, hK _ _ _ _ ?_⟩
    refine rz_blk' [(.iconst 0, 1, 0, 0), (.istore 6, 2, 0, 0)] (by decide +kernel) (Nat.le_refl _) (Nat.le_refl _) (fun K R hK hR => ?_)
    simp only [rw_c0, ↓rx_iconst, ↓rx_istore, ↓rx_nil, ↓ry_i1, ↓dm_ob, ↓dm_i1, ↓dm_n1, ↓dm_i2, ↓dm_n2, ↓dm_i3, ↓dm_n3, ↓dm_i4, ↓dm_n4, rz_set, rz_nol, rz_clr, List.set_cons_zero, List.set_cons_succ, rz_tr, Nat.reduceAdd, Int.reduceAdd, Int.reduceToNat, Int.reduceSub, Int.reduceNeg, Int.cast_ofNat_Int]
    refine hK _ _ _ _ ?_
    refine dm_se_l h1 h2 (i := i) (s := x.1) (t := x.2.1) (by omega) w2 w3 3 0 S I A rfl (by omega) (by rw [hgn]) (by rw [hgn]) hS (fun I' A' z4 z5 z6 t1 t2 => ?_)
    refine rz_blk' [(.iinc 3 1, 3, 0, 0), (.goto (-122), 3, 0, 0)] (by decide +kernel) (Nat.le_refl _) (Nat.le_refl _) (fun K R hK hR => ?_)
    simp only [rw_c1, ↓rx_goto, ↓rx_iinc, ↓rx_nil, ↓ry_li0s, ↓ry_li0z, ↓dm_ob, ↓dm_i1, ↓dm_n1, ↓dm_i2, ↓dm_n2, ↓dm_i3, ↓dm_n3, ↓dm_i4, ↓dm_n4, nI_add, rz_set, rz_nol, rz_clr, List.set_cons_zero, List.set_cons_succ, rz_tr, Nat.reduceAdd, Int.reduceAdd, Int.reduceToNat, Int.reduceSub, Int.reduceNeg, Int.cast_ofNat_Int]
    exact hK _ _ _ _ (ih (i + 1) _ I' A' _ _ _ (by omega) (by omega) t1 hc)
end DMQ
def dm_s0 (m1 m2 : mv_T) (c1 c2 : Nat) : dm_sT := dm_v m1 m2 c1 c2 ([], none) (mv_al m1 c1 &&& 1, mv_al m2 c2 &&& 1, 0, 0)
def dm_res (m1 m2 : mv_T) (c1 c2 : Nat) : dm_sT := dm_lo m1 m2 c1 c2 4097 0 (dm_s0 m1 m2 c1 c2)

set_option maxRecDepth 100000 in
set_option maxHeartbeats 4000000 in
/-- search(one, two) -/
theorem c_Dom_search {w : rz_w} {d : Nat} {G : rz_G} {a : Nat} {I : Nat → Int32} {A : Nat → Nat → Int32} {J : Nat → Nat → Int64} {X : Nat → List Nat} {P : Nat → Nat} {S1 S2 : mc_S} {m1 m2 : mv_T} {c1 c2 a1 a2 : Nat} (h1 : mc_at' G a1 a 5 S1 m1 c1) (h2 : mc_at' G a2 a 5 S2 m2 c2) :
    rz_C w (d + 2) 0 0 y_Dom_search m_Dom_search [.ref a, .ref a1, .ref a2] (dm_put G a I A J X P) (fun r G' => ∃ I' A', r = some (.int (rz_b (dm_res m1 m2 c1 c2).2.isSome)) ∧ G' = dm_put G a I' A' J X P ∧ dm_ss I' A' (dm_res m1 m2 c1 c2)) := by
  obtain ⟨-, hm1, hs1, ha1⟩ := id h1
  obtain ⟨-, hm2, hs2, ha2⟩ := id h2
  have hal1 := mv_al64 hm1
  have hal2 := mv_al64 hm2
  refine rz_enter' [some (.ref a), some (.ref a1), some (.ref a2), none, none, none, none] (by decide +kernel) rfl rfl (Nat.le_of_ble_eq_true rfl) rfl ?_
  refine rz_blk' [(.aload_n 0, 1, 0, 0), (.getfield 9, 3, 5, 0), (.iconst 0, 1, 0, 0)] (by decide +kernel) (Nat.le_refl _) (Nat.le_refl _) (fun K R hK hR => ?_)
  simp only [rw_c0, ↓rx_aload_n0, ↓rx_getfield, ↓rx_iconst, ↓rx_nil, ↓ry_fvs, ↓ry_fvz, ↓ry_lr0s, ↓ry_lr0z, ↓ry_obu, ↓ry_r1, ↓dm_ob, ↓dm_i1, ↓dm_n1, ↓dm_i2, ↓dm_n2, ↓dm_i3, ↓dm_n3, ↓dm_i4, ↓dm_n4, rz_set, rz_nol, rz_clr, List.set_cons_zero, List.set_cons_succ, rz_tr, Nat.reduceAdd, Int.reduceAdd, Int.reduceToNat, Int.reduceSub, Int.reduceNeg, Int.cast_ofNat_Int]
  refine hK _ _ _ _ ?_
  refine rz_cS (As := [.ref (a + 1), .int (nI 0)]) (S := []) l_Dom_25 (by decide +kernel) rfl (Nat.le_of_ble_eq_true rfl) (Nat.le_refl _) (Nat.le_refl _) (c_Arr_fill2 (dm_at (o := 1) (by decide)) (by decide)) (fun r G' hr => ?_)
  obtain ⟨rfl, rfl⟩ := hr
  simp only [Option.toList, List.nil_append]
  rw [dm_a1]
  refine rz_blk' [(.aload_n 0, 1, 0, 0), (.iconst 0, 1, 0, 0), (.putfield 31, 3, 5, 4)] (by decide +kernel) (Nat.le_refl _) (Nat.le_refl _) (fun K R hK hR => ?_)
  simp only [List.length_cons, List.length_nil, Nat.reduceLT, rf_5_4, rw_c0, ↓rx_aload_n0, ↓rx_iconst, ↓rx_nil, ↓rx_putfield, ↓ry_lr0s, ↓ry_lr0z, ↓ry_obu, ↓ry_vr, true_and, ↓dm_ob, ↓dm_i1, ↓dm_n1, ↓dm_i2, ↓dm_n2, ↓dm_i3, ↓dm_n3, ↓dm_i4, ↓dm_n4, dm_u4, rz_set, rz_nol, rz_clr, List.set_cons_zero, List.set_cons_succ, rz_tr, Nat.reduceAdd, Int.reduceAdd, Int.reduceToNat, Int.reduceSub, Int.reduceNeg, Int.cast_ofNat_Int]
  refine hK _ _ _ _ ?_
  refine rz_blk' [(.aload_n 0, 1, 0, 0), (.iconst (-1), 1, 0, 0), (.putfield 35, 3, 5, 5)] (by decide +kernel) (Nat.le_refl _) (Nat.le_refl _) (fun K R hK hR => ?_)
  simp only [List.length_cons, List.length_nil, Nat.reduceLT, rf_5_5, rw_cm1, ↓rx_aload_n0, ↓rx_iconst, ↓rx_nil, ↓rx_putfield, ↓ry_lr0s, ↓ry_lr0z, ↓ry_obu, ↓ry_vr, true_and, ↓dm_ob, ↓dm_i1, ↓dm_n1, ↓dm_i2, ↓dm_n2, ↓dm_i3, ↓dm_n3, ↓dm_i4, ↓dm_n4, dm_u5, rz_set, rz_nol, rz_clr, List.set_cons_zero, List.set_cons_succ, rz_tr, Nat.reduceAdd, Int.reduceAdd, Int.reduceToNat, Int.reduceSub, Int.reduceNeg, Int.cast_ofNat_Int]
  refine hK _ _ _ _ ?_
  generalize hI2 : upd (upd I 0 _) 1 _ = I2
  generalize hA2 : va_up A 0 _ = A2
  have e0 : I2 0 = nI 0 := by rw [← hI2, pk_un (by decide), pk_us]
  have e1 : I2 1 = ps_fo none := by rw [← hI2, pk_us]; rfl
  have hN : dm_ns I2 A2 [] ([] : List dm_nd).length := ⟨e0, by simp, fun s t hs ht => by
    rw [← hA2, va_up_self]
    rw [if_pos (by omega)]
    rfl, fun i n hi => by simp at hi⟩
  have ob1 : (dm_put G a I2 A2 J X P) a1 = some (.inr (2, mc_fs a1 S1.1 S1.2.2.2.2)) := dm_mc h1 0 (by decide)
  have ob2 : (dm_put G a I2 A2 J X P) a2 = some (.inr (2, mc_fs a2 S2.1 S2.2.2.2.2)) := dm_mc h2 0 (by decide)
  refine rz_blk' [(.aload_n 0, 1, 0, 0), (.aload_n 1, 1, 0, 0), (.aload_n 2, 1, 0, 0), (.aload_n 1, 1, 0, 0), (.getfield 38, 3, 2, 10), (.iconst 1, 1, 0, 0), (.iand, 1, 0, 0), (.aload_n 2, 1, 0, 0), (.getfield 38, 3, 2, 10), (.iconst 1, 1, 0, 0), (.iand, 1, 0, 0)] (by decide +kernel) (Nat.le_refl _) (Nat.le_refl _) (fun K R hK hR => ?_)
  simp only [rw_c1, ↓rx_aload_n0, ↓rx_aload_n1, ↓rx_aload_n2, ↓rx_getfield, ↓rx_iand, ↓rx_iconst, ↓rx_nil, ↓ry_fvs, ↓ry_fvz, ↓ry_i2, ↓ry_lr0s, ↓ry_lr0z, ↓ry_obu, ↓ry_r1, ↓dm_ob, ↓dm_i1, ↓dm_n1, ↓dm_i2, ↓dm_n2, ↓dm_i3, ↓dm_n3, ↓dm_i4, ↓dm_n4, ↓rh_ob ob1, ↓rh_ob ob2, rz_set, rz_nol, rz_clr, List.set_cons_zero, List.set_cons_succ, rz_tr, Nat.reduceAdd, Int.reduceAdd, Int.reduceToNat, Int.reduceSub, Int.reduceNeg, Int.cast_ofNat_Int]
  rw [hs1.2.1, hs2.2.1, hp_ands _ hal1 1 (by decide), hp_ands _ hal2 1 (by decide)]
  refine hK _ _ _ _ ?_
  refine rz_cV (As := [.ref a1, .ref a2, .int (nI (mv_al m1 c1 &&& 1)), .int (nI (mv_al m2 c2 &&& 1))]) (b := a) (S := []) l_Dom_43 (by decide +kernel) rfl dm_at0 rfl (Nat.le_of_ble_eq_true rfl) (Nat.le_refl _) (Nat.le_refl _) (c_Dom_visit h1 h2 (hp_and64 hal1) (hp_and64 hal2) hN e1) (fun r G' hr => ?_)
  obtain ⟨rfl, I', A', rfl, hv⟩ := hr
  have hv := hv 0 0
  simp only [Option.toList, List.cons_append, List.nil_append]
  refine rz_blk' [(.pop, 1, 0, 0)] (by decide +kernel) (Nat.le_refl _) (Nat.le_refl _) (fun K R hK hR => ?_)
  simp only [↓rx_nil, ↓rx_pop, ↓ry_v1i, ↓ry_v1r, ↓dm_ob, ↓dm_i1, ↓dm_n1, ↓dm_i2, ↓dm_n2, ↓dm_i3, ↓dm_n3, ↓dm_i4, ↓dm_n4, rz_set, rz_nol, rz_clr, List.set_cons_zero, List.set_cons_succ, rz_tr, Nat.reduceAdd, Int.reduceAdd, Int.reduceToNat, Int.reduceSub, Int.reduceNeg, Int.cast_ofNat_Int]
  refine hK _ _ _ _ ?_
  refine rz_blk' [(.iconst 0, 1, 0, 0), (.istore_n 3, 1, 0, 0)] (by decide +kernel) (Nat.le_refl _) (Nat.le_refl _) (fun K R hK hR => ?_)
  simp only [rw_c0, ↓rx_iconst, ↓rx_istore_n3, ↓rx_nil, ↓ry_i1, ↓dm_ob, ↓dm_i1, ↓dm_n1, ↓dm_i2, ↓dm_n2, ↓dm_i3, ↓dm_n3, ↓dm_i4, ↓dm_n4, rz_set, rz_nol, rz_clr, List.set_cons_zero, List.set_cons_succ, rz_tr, Nat.reduceAdd, Int.reduceAdd, Int.reduceToNat, Int.reduceSub, Int.reduceNeg, Int.cast_ofNat_Int]
  refine hK _ _ _ _ ?_
  have hS0 : dm_ss I' A' (dm_s0 m1 m2 c1 c2) := by
    refine ⟨?_, hv.2, dm_v_fd (fun g hg => by cases hg)⟩
    refine ⟨hv.1.1, hv.1.2.1, hv.1.2.2.1, fun i n hi => ?_⟩
    obtain ⟨w1, w2, w3, w4⟩ := hv.1.2.2.2 i n hi
    refine ⟨w1, w2, w3, fun i0 i1 => ?_⟩
    exfalso
    have : (dm_s0 m1 m2 c1 c2).1.length ≤ 1 := by
      simp only [dm_s0, dm_v]; split <;> simp
    omega
  refine dm_se_g h1 h2 4097 0 _ I' A' none none none (by omega) (by omega) hS0 (fun I3 A3 L u => ?_)
  obtain ⟨u1, u2, u3⟩ := id u
  refine rz_blk' [(.aload_n 0, 1, 0, 0), (.getfield 35, 3, 5, 5), (.iconst (-1), 1, 0, 0), (.if_icmp .eq 7, 3, 0, 0), (.iconst 1, 1, 0, 0), (.goto 4, 3, 0, 0), (.iconst 0, 1, 0, 0)] (by decide +kernel) (Nat.le_refl _) (Nat.le_refl _) (fun K R hK hR => ?_)
  simp only [rw_c0, rw_c1, rw_cm1, ↓rx_aload_n0, ↓rx_getfield, ↓rx_goto, ↓rx_iconst, ↓rx_if_icmp_eq, ↓rx_nil, ↓ry_fvs, ↓ry_fvz, ↓ry_i2, ↓ry_lr0s, ↓ry_lr0z, ↓ry_obu, ↓ry_r1, ↓dm_ob, ↓dm_i1, ↓dm_n1, ↓dm_i2, ↓dm_n2, ↓dm_i3, ↓dm_n3, ↓dm_i4, ↓dm_n4, rz_set, rz_nol, rz_clr, List.set_cons_zero, List.set_cons_succ, rz_tr, Nat.reduceAdd, Int.reduceAdd, Int.reduceToNat, Int.reduceSub, Int.reduceNeg, Int.cast_ofNat_Int]
  rw [u2, dm_fo_n (fun g hg => by have := u3 g hg; have := u1.2.1; omega)]
  have hret : ∀ r : Int32, r = rz_b (dm_res m1 m2 c1 c2).2.isSome → rz_T w (d + 2) 0 0 m_Dom_search 0 0 177 (some (.ref a) :: L) [.int r] (dm_put G a I3 A3 J X P) (fun r G' => ∃ I' A', r = some (.int (rz_b (dm_res m1 m2 c1 c2).2.isSome)) ∧ G' = dm_put G a I' A' J X P ∧ dm_ss I' A' (dm_res m1 m2 c1 c2)) := by
    intro r hr
    refine rz_blk' [(.ireturn, 1, 0, 0)] (by decide +kernel) (Nat.le_refl _) (Nat.le_refl _) (fun K R hK hR => ?_)
    simp only [↓rx_ireturn, ↓rx_nil, ↓dm_ob, ↓dm_i1, ↓dm_n1, ↓dm_i2, ↓dm_n2, ↓dm_i3, ↓dm_n3, ↓dm_i4, ↓dm_n4, rz_set, rz_nol, rz_clr, List.set_cons_zero, List.set_cons_succ, rz_tr, Nat.reduceAdd, Int.reduceAdd, Int.reduceToNat, Int.reduceSub, Int.reduceNeg, Int.cast_ofNat_Int]
    exact hR _ _ (by rw [hr]; exact rz_b_nb) ⟨I3, A3, by rw [hr], rfl, u⟩
  refine ⟨fun q => hK _ _ _ _ ?_, fun q => hK _ _ _ _ (hret _ ?_)⟩
  · refine rz_blk' [(.iconst 0, 1, 0, 0)] (by decide +kernel) (Nat.le_refl _) (Nat.le_refl _) (fun K R hK hR => ?_)
    simp only [rw_c0, ↓rx_iconst, ↓rx_nil, ↓dm_ob, ↓dm_i1, ↓dm_n1, ↓dm_i2, ↓dm_n2, ↓dm_i3, ↓dm_n3, ↓dm_i4, ↓dm_n4, rz_set, rz_nol, rz_clr, List.set_cons_zero, List.set_cons_succ, rz_tr, Nat.reduceAdd, Int.reduceAdd, Int.reduceToNat, Int.reduceSub, Int.reduceNeg, Int.cast_ofNat_Int]
    exact hK _ _ _ _ (hret _ (by rw [dm_res, q]; rfl))
  · cases e : (dm_res m1 m2 c1 c2).2 with
    | none => exact absurd e q
    | some x => rfl

