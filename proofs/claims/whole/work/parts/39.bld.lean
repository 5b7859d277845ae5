/-! WriterDesk$Builder: findHead -/
def bl_xo (X : Nat → List Nat) : Prop := (∀ j, j < 2 → wd_ok 3 (X j)) ∧ (∀ q, q < 6 → wd_ok 3 (X (3 + q))) ∧ wd_ok 11 (X 2) ∧ (∀ q, q < 6 → wd_ok 11 (X (9 + q))) ∧ ∀ i, i < 240 → wd_ok 11 (X (15 + i))
theorem bl_xo_up {X : Nat → List Nat} {k : Nat} {xs : List Nat} (h : bl_xo X) (hk : (k < 2 ∨ (3 ≤ k ∧ k < 9)) ∧ wd_ok 3 xs ∨ (k = 2 ∨ 9 ≤ k) ∧ wd_ok 11 xs) : bl_xo (va_up X k xs) := by
  obtain ⟨h1, h2, h3, h4, h5⟩ := h
  refine ⟨fun j hj => ?_, fun q hq => ?_, ?_, fun q hq => ?_, fun i hi => ?_⟩
  · by_cases c : j = k
    · subst c; rw [va_up_self]; rcases hk with hk | hk
      · exact hk.2
      · omega
    · rw [va_up_ne _ _ c]; exact h1 j hj
  · by_cases c : 3 + q = k
    · subst c; rw [va_up_self]; rcases hk with hk | hk
      · exact hk.2
      · omega
    · rw [va_up_ne _ _ c]; exact h2 q hq
  · by_cases c : 2 = k
    · subst c; rw [va_up_self]; rcases hk with hk | hk
      · omega
      · exact hk.2
    · rw [va_up_ne _ _ c]; exact h3
  · by_cases c : 9 + q = k
    · subst c; rw [va_up_self]; rcases hk with hk | hk
      · omega
      · exact hk.2
    · rw [va_up_ne _ _ c]; exact h4 q hq
  · by_cases c : 15 + i = k
    · subst c; rw [va_up_self]; rcases hk with hk | hk
      · omega
      · exact hk.2
    · rw [va_up_ne _ _ c]; exact h5 i hi
/-- the edges of a state -/
def mv_es (m : mv_T) (al q : Nat) : List Nat := mv_pl m al (q * 3) ++ (mv_pl m al (q * 3 + 1) ++ mv_pl m al (q * 3 + 2))
theorem mv_row3 {I : Nat → Int32} {A : Nat → Nat → Int32} {m : mv_T} {cl q : Nat} (hs : mv_set I A m cl) (hq : q < 6) :
    A 4 (q * 3) = nI (mv_so m (mv_al m cl) (q * 3)).length ∧ A 4 (q * 3 + 3) = nI ((mv_so m (mv_al m cl) (q * 3)).length + (mv_es m (mv_al m cl) q).length) ∧ (mv_so m (mv_al m cl) (q * 3)).length + (mv_es m (mv_al m cl) q).length ≤ m.2.1.length ∧ ∀ i e, (mv_es m (mv_al m cl) q)[i]? = some e → A 3 ((mv_so m (mv_al m cl) (q * 3)).length + i) = nI e ∧ e < m.2.1.length := by
  generalize hal : mv_al m cl = al
  have r0 := mv_row hs (show q * 3 < 18 by omega)
  have r1 := mv_row hs (show q * 3 + 1 < 18 by omega)
  have r2 := mv_row hs (show q * 3 + 2 < 18 by omega)
  rw [hal] at r0 r1 r2
  have e1 : (mv_so m al (q * 3 + 1)).length = (mv_so m al (q * 3)).length + (mv_pl m al (q * 3)).length := by simp [mv_so]
  have e2 : (mv_so m al (q * 3 + 2)).length = (mv_so m al (q * 3)).length + (mv_pl m al (q * 3)).length + (mv_pl m al (q * 3 + 1)).length := by simp [mv_so]; omega
  have el : (mv_es m al q).length = (mv_pl m al (q * 3)).length + ((mv_pl m al (q * 3 + 1)).length + (mv_pl m al (q * 3 + 2)).length) := by simp [mv_es]
  rw [e1] at r1
  rw [e2] at r2
  refine ⟨r0.1, by rw [r2.2.1, el]; congr 1; omega, by rw [el]; have := r2.2.2.1; omega, fun i e hi => ?_⟩
  simp only [mv_es] at hi
  generalize mv_pl m al (q * 3) = p0 at *
  generalize mv_pl m al (q * 3 + 1) = p1 at *
  generalize mv_pl m al (q * 3 + 2) = p2 at *
  by_cases c : i < p0.length
  · rw [List.getElem?_append_left c] at hi
    exact r0.2.2.2 i e hi
  · rw [List.getElem?_append_right (by omega)] at hi
    by_cases c2 : i - p0.length < p1.length
    · rw [List.getElem?_append_left c2] at hi
      have := r1.2.2.2 _ e hi
      rw [show (mv_so m al (q * 3)).length + p0.length + (i - p0.length) = (mv_so m al (q * 3)).length + i by omega] at this
      exact this
    · rw [List.getElem?_append_right (by omega)] at hi
      have := r2.2.2.2 _ e hi
      rw [show (mv_so m al (q * 3)).length + p0.length + p1.length + (i - p0.length - p1.length) = (mv_so m al (q * 3)).length + i by omega] at this
      exact this
def bh_mg (acc : Option (List Nat)) (p : List Nat) : Option (List Nat) := match acc with | none => some p | some h => some (h.take (wd_lcp h p))
def bh_it (m : mv_T) (hk : Nat) (hd : Nat → List Nat) (acc : Option (List Nat)) (e : Nat) : Option (List Nat) := if hk.testBit (mv_e m e).2.2.1 then bh_mg acc ((mv_e m e).2.2.2 ++ hd (mv_e m e).2.2.1) else acc
def bh_f (m : mv_T) (cl hk : Nat) (hd : Nat → List Nat) (q : Nat) : Option (List Nat) := (mv_es m (mv_al m cl) q).foldl (bh_it m hk hd) (if (cl &&& mv_al m cl).testBit q then some (ps_fin m q) else none)
abbrev bh_T : Type := Nat × (Nat → List Nat)
def bh_1 (m : mv_T) (cl : Nat) (S : bh_T) (q : Nat) : bh_T × Bool := match bh_f m cl S.1 S.2 q with
  | none => (S, false)
  | some h => if S.1.testBit q ∧ h = S.2 q then (S, false) else ((S.1 ||| 2 ^ q, va_up S.2 q h), true)
def bh_st (I : Nat → Int32) (X : Nat → List Nat) (S : bh_T) : Prop := I 0 = nI S.1 ∧ S.1 < 64 ∧ (∀ q, q < 6 → X (3 + q) = S.2 q) ∧ bl_xo X
def bh_ag (X X' : Nat → List Nat) : Prop := ∀ j, 2 ≤ j → X' j = X j
section BHL
variable {w : rz_w} {d : Nat} {G : rz_G} {a am q : Nat} {I : Nat → Int32} {A : Nat → Nat → Int32} {J : Nat → Nat → Int64} {P : Nat → Nat} {Im : Nat → Int32} {Am : Nat → Nat → Int32} {Jm : Nat → Nat → Int64} {Xm : Nat → List Nat} {Pm : Nat → Nat} {M1 : mc_S} {m : mv_T} {cl hk : Nat} {hd : Nat → List Nat} {Q : Option Value → rz_G → Prop}
set_option maxRecDepth 100000 in
set_option maxHeartbeats 4000000 in
theorem bh_l (h1 : mc_at' G am a 588 M1 m cl) (h3 : mv_w3 m) (hq : q < 6) (hI : I 0 = nI hk) (hk6 : hk < 64) (hb : ∀ q, q < 6 → hk.testBit q = true → (hd q).length ≤ 45) :
    ∀ (k i : Nat) (acc : Option (List Nat)) (X : Nat → List Nat) (z5 : Option Value), (mv_es m (mv_al m cl) q).length + 1 ≤ i + k → i ≤ (mv_es m (mv_al m cl) q).length → bl_xo X → (∀ q, q < 6 → X (3 + q) = hd q) → (∀ h, acc = some h → X 0 = h) →
      (∀ X' z4 z5, bl_xo X' → bh_ag X X' → (∀ h, ((mv_es m (mv_al m cl) q).drop i).foldl (bh_it m hk hd) acc = some h → X' 0 = h) → rz_T w (d + 1) 0 0 m_Bld_findHead 0 0 151 [some (.ref a), some (.ref am), some (.int (nI q)), some (.int (rz_b (((mv_es m (mv_al m cl) q).drop i).foldl (bh_it m hk hd) acc).isSome)), z4, z5] [] (mc_put (bo_put G a I A J X' P) (a + 1) Im Am Jm Xm Pm) Q) →
      rz_T w (d + 1) 0 0 m_Bld_findHead 0 0 33 [some (.ref a), some (.ref am), some (.int (nI q)), some (.int (rz_b acc.isSome)), some (.int (nI ((mv_so m (mv_al m cl) (q * 3)).length + i))), z5] [] (mc_put (bo_put G a I A J X P) (a + 1) Im Am Jm Xm Pm) Q := by
  intro k
  obtain ⟨-, hm1, hs1, ha1⟩ := id h1
  unfold mc_ap at ha1
  obtain ⟨p1, p2, p3, p4⟩ := mv_row3 hs1 hq
  have n1 := hm1.2.2.2.2.1
  have z6 := hm1.2.2.1
  generalize hes : mv_es m (mv_al m cl) q = es at *
  generalize hso : (mv_so m (mv_al m cl) (q * 3)).length = so at *
  induction k with
  | zero => intro i acc X z5 q1 q2; omega
  | succ k ih =>
    intro i acc X z5 hkk hi hX hXh hacc hc
    have hmc : ∀ X, mc_is (mc_put (bo_put G a I A J X P) (a + 1) Im Am Jm Xm Pm) am M1.1 M1.2.1 M1.2.2.1 M1.2.2.2.1 M1.2.2.2.2 := fun X => bl_mc h1
    have ob : ∀ X, (mc_put (bo_put G a I A J X P) (a + 1) Im Am Jm Xm Pm) am = some (.inr (2, mc_fs am M1.1 M1.2.2.2.2)) := fun X => hmc X 0 (by decide)
    have cb : ∀ X, (mc_put (bo_put G a I A J X P) (a + 1) Im Am Jm Xm Pm) (am + 9) = some (.inl (0, 19, .inl (M1.2.1 4))) := fun X => hmc X 9 (by decide)
    have cs : ∀ X, (mc_put (bo_put G a I A J X P) (a + 1) Im Am Jm Xm Pm) (am + 8) = some (.inl (0, 24, .inl (M1.2.1 3))) := fun X => hmc X 8 (by decide)
    have ct : ∀ X, (mc_put (bo_put G a I A J X P) (a + 1) Im Am Jm Xm Pm) (am + 3) = some (.inl (0, 24, .inl (M1.2.1 2))) := fun X => hmc X 3 (by decide)
    have cw : ∀ X, (mc_put (bo_put G a I A J X P) (a + 1) Im Am Jm Xm Pm) (am + 4) = some (.inl (4, 24, .inr (.inr (.inr (.inr (fun e => some (am + 10 + 2 * e))))))) := fun X => hmc X 4 (by decide)
    refine rz_blk' [(.iload 4, 2, 0, 0), (.aload_n 1, 1, 0, 0), (.getfield 134, 3, 2, 12), (.iload_n 2, 1, 0, 0), (.iconst 1, 1, 0, 0), (.iadd, 1, 0, 0), (.iconst 3, 1, 0, 0), (.imul, 1, 0, 0), (.iaload, 1, 0, 0), (.if_icmp .ge 106, 3, 0, 0), (.aload_n 1, 1, 0, 0), (.getfield 137, 3, 2, 11), (.iload 4, 2, 0, 0), (.iaload, 1, 0, 0), (.istore 5, 2, 0, 0)] (by decide +kernel) (Nat.le_refl _) (Nat.le_refl _) (fun K R hK hR => ?_)
    simp only [rw_c1, rw_c3, ↓rx_aload_n1, ↓rx_getfield, ↓rx_iadd, ↓rx_iaload, ↓rx_iconst, ↓rx_if_icmp_ge, ↓rx_iload, ↓rx_iload_n2, ↓rx_imul, ↓rx_istore, ↓rx_nil, ↓ry_fvs, ↓ry_fvz, ↓ry_i1, ↓ry_i2, ↓ry_iau, ↓ry_li0s, ↓ry_li0z, ↓ry_lr0s, ↓ry_lr0z, ↓ry_obu, ↓ry_r1, ↓ry_ri, true_and, ↓bl_ob, ↓bl_r71, ↓bl_i76, ↓bl_i77, ↓bl_i78, ↓bl_i79, ↓bl_r80, ↓bl_r81, ↓rh_ob (ob _), ↓rh_ia (cb _), ↓rh_ia (cs _), pk_mul, nI_add, rz_set, rz_nol, rz_clr, List.set_cons_zero, List.set_cons_succ, rz_tr, Nat.reduceAdd, Int.reduceAdd, Int.reduceToNat, Int.reduceSub, Int.reduceNeg, Int.cast_ofNat_Int]
    rw [show (q + 1) * 3 = q * 3 + 3 by omega, nI_clamp (n := q * 3 + 3) (by omega), p2, nI_leI (by omega) (by omega)]
    refine ⟨vp_in_nI (by omega) (by decide), fun c1 => hK _ _ _ _ ?_, fun c1 => ?_⟩
    · have e0 : es.drop i = [] := List.drop_of_length_le (by omega)
      rw [e0] at hc
      exact hc X _ _ hX (fun _ _ => rfl) hacc
    have hil : i < es.length := by omega
    obtain ⟨e, hie⟩ : ∃ e, es[i]? = some e := ⟨_, List.getElem?_eq_getElem hil⟩
    have hdr : es.drop i = e :: es.drop (i + 1) := by
      rw [List.drop_eq_getElem_cons hil]
      congr 1
      rw [List.getElem?_eq_getElem hil] at hie
      exact Option.some.inj hie
    rw [hdr] at hc
    simp only [List.foldl_cons] at hc
    obtain ⟨se1, se2⟩ := p4 i e hie
    have ee := hm1.2.2.2.2.2.1 e se2
    rw [← mv_e_get se2] at ee
    obtain ⟨le3, le8⟩ := h3.1 e se2
    rw [nI_clamp (by omega), se1]
    refine ⟨vp_in_nI (by omega) (by decide), hK _ _ _ _ ?_⟩
    refine rz_blk' [(.aload_n 0, 1, 0, 0), (.getfield 115, 3, 8, 2), (.aload_n 1, 1, 0, 0), (.getfield 140, 3, 2, 4), (.iload 5, 2, 0, 0), (.iaload, 1, 0, 0)] (by decide +kernel) (Nat.le_refl _) (Nat.le_refl _) (fun K R hK hR => ?_)
    simp only [↓rx_aload_n0, ↓rx_aload_n1, ↓rx_getfield, ↓rx_iaload, ↓rx_iload, ↓rx_nil, ↓ry_fvs, ↓ry_fvz, ↓ry_iau, ↓ry_li0s, ↓ry_li0z, ↓ry_lr0s, ↓ry_lr0z, ↓ry_obu, ↓ry_r1, ↓ry_ri, true_and, ↓bl_ob, ↓bl_r71, ↓bl_i76, ↓bl_i77, ↓bl_i78, ↓bl_i79, ↓bl_r80, ↓bl_r81, ↓rh_ob (ob _), ↓rh_ia (ct _), hI, rz_set, rz_nol, rz_clr, List.set_cons_zero, List.set_cons_succ, rz_tr, Nat.reduceAdd, Int.reduceAdd, Int.reduceToNat, Int.reduceSub, Int.reduceNeg, Int.cast_ofNat_Int]
    rw [nI_clamp (by omega), ee.2.2.1]
    refine ⟨vp_in_nI (by omega) (by decide), hK _ _ _ _ ?_⟩
    generalize hto : (mv_e m e).2.2.1 = t at *
    refine rz_cN (As := [.int (nI hk), .int (nI t)]) (S := []) l_Bld_119 (by decide +kernel) rfl (Nat.le_of_ble_eq_true rfl) (Nat.le_refl _) (Nat.le_refl _) (c_Desk_has (by omega) (by omega)) (fun r G' hr => ?_)
    obtain ⟨rfl, hg⟩ := hr
    have hg := hg.symm
    subst hg
    simp only [Option.toList, List.cons_append, List.nil_append]
    have hnext : ∀ (acc2 : Option (List Nat)) (X2 : Nat → List Nat), acc2 = bh_it m hk hd acc e → bl_xo X2 → bh_ag X X2 → (∀ h, acc2 = some h → X2 0 = h) → rz_T w (d + 1) 0 0 m_Bld_findHead 0 0 145 [some (.ref a), some (.ref am), some (.int (nI q)), some (.int (rz_b acc2.isSome)), some (.int (nI (so + i))), some (.int (nI e))] [] (mc_put (bo_put G a I A J X2 P) (a + 1) Im Am Jm Xm Pm) Q := by
      intro acc2 X2 ea hX2 hag h02
      refine rz_blk' [(.iinc 4 1, 3, 0, 0), (.goto (-115), 3, 0, 0)] (by decide +kernel) (Nat.le_refl _) (Nat.le_refl _) (fun K R hK hR => ?_)
      simp only [rw_c1, ↓rx_goto, ↓rx_iinc, ↓rx_nil, ↓ry_li0s, ↓ry_li0z, ↓bl_ob, ↓bl_r71, ↓bl_i76, ↓bl_i77, ↓bl_i78, ↓bl_i79, ↓bl_r80, ↓bl_r81, nI_add, rz_set, rz_nol, rz_clr, List.set_cons_zero, List.set_cons_succ, rz_tr, Nat.reduceAdd, Int.reduceAdd, Int.reduceToNat, Int.reduceSub, Int.reduceNeg, Int.cast_ofNat_Int]
      rw [Nat.add_assoc]
      refine hK _ _ _ _ (ih (i + 1) acc2 X2 _ (by omega) (by omega) hX2 (fun q hq => by rw [hag _ (by omega)]; exact hXh q hq) h02 (fun X' z4 z5 t1 t2 t3 => ?_))
      rw [ea] at t3 ⊢
      exact hc X' z4 z5 t1 (fun j hj => (t2 j hj).trans (hag j hj)) t3
    by_cases ck : hk.testBit t = true
    · rw [if_pos ck]
      have hht := hb t (by omega) ck
      refine rz_blk' [(.ifCond .eq 74, 3, 0, 0), (.aload_n 0, 1, 0, 0), (.getfield 31, 3, 8, 4), (.aload_n 1, 1, 0, 0), (.getfield 143, 3, 2, 5), (.iload 5, 2, 0, 0), (.aaload, 1, 0, 0)] (by decide +kernel) (Nat.le_refl _) (Nat.le_refl _) (fun K R hK hR => ?_)
      simp only [Nat.reduceEqDiff, false_or, or_false, or_true, reduceIte, ↓rx_aaload, ↓rx_aload_n0, ↓rx_aload_n1, ↓rx_getfield, ↓rx_ifCond_eq, ↓rx_iload, ↓rx_nil, ↓ry_fvs, ↓ry_fvz, ↓ry_i1, ↓ry_li0s, ↓ry_li0z, ↓ry_lr0s, ↓ry_lr0z, ↓ry_obu, ↓ry_r1, ↓ry_ri, true_and, true_or, ↓bl_ob, ↓bl_r71, ↓bl_i76, ↓bl_i77, ↓bl_i78, ↓bl_i79, ↓bl_r80, ↓bl_r81, ↓rh_ob (ob _), ↓rh_ra (cw _), va_rfs, rz_set, rz_nol, rz_clr, List.set_cons_zero, List.set_cons_succ, rz_tr, Nat.reduceAdd, Int.reduceAdd, Int.reduceToNat, Int.reduceSub, Int.reduceNeg, Int.cast_ofNat_Int]
      rw [nI_clamp (by omega)]
      have kk := mc_is_wi (hmc X) hm1.2.2.2.2.2.2.2.2.2.2.2.2 (show e < 30 by omega)
      rw [ee.2.2.2.1] at kk
      refine ⟨fun z => absurd z (by decide), fun _ => ⟨vp_in_nI (by omega) (by decide), hK _ _ _ _ ?_⟩⟩
      refine rz_cV (As := [.ref (am + 10 + 2 * e)]) (b := a + 74) (S := []) l_Bld_86 (by decide +kernel) rfl (bl_wi74 (hX.1 1 (by decide))).1 rfl (Nat.le_of_ble_eq_true rfl) (Nat.le_refl _) (Nat.le_refl _) (c_Word_copy (bl_wi74 (hX.1 1 (by decide))) kk (by omega)) (fun r G' hr => ?_)
      obtain ⟨rfl, rfl⟩ := hr
      rw [bl_wp74, if_pos (by omega)]
      simp only [Option.toList, List.nil_append]
      generalize hwe : (mv_e m e).2.2.2 = we at *
      have ok0 : wd_ok 3 we := kk.2.2
      have hX1 : bl_xo (va_up X 1 we) := bl_xo_up hX (Or.inl ⟨Or.inl (by decide), ok0⟩)
      generalize hX1d : va_up X 1 we = X1 at *
      have x11 : X1 1 = we := by rw [← hX1d, va_up_self]
      have x1n : ∀ j, j ≠ 1 → X1 j = X j := fun j hj => by rw [← hX1d, va_up_ne _ _ hj]
      have wh := bl_wiH (G := G) (a := a) (I := I) (A := A) (J := J) (X := X1) (P := P) (Im := Im) (Am := Am) (Jm := Jm) (Xm := Xm) (Pm := Pm) (q := t) (by omega) (hX1.2.1 t (by omega))
      rw [x1n _ (by omega), hXh t (by omega)] at wh
      refine rz_blk' [(.aload_n 0, 1, 0, 0), (.getfield 31, 3, 8, 4), (.aload_n 0, 1, 0, 0), (.getfield 20, 3, 8, 1), (.aload_n 1, 1, 0, 0), (.getfield 140, 3, 2, 4), (.iload 5, 2, 0, 0), (.iaload, 1, 0, 0), (.aaload, 1, 0, 0)] (by decide +kernel) (Nat.le_refl _) (Nat.le_refl _) (fun K R hK hR => ?_)
      simp only [Nat.reduceEqDiff, false_or, or_false, or_true, reduceIte, ↓rx_aaload, ↓rx_aload_n0, ↓rx_aload_n1, ↓rx_getfield, ↓rx_iaload, ↓rx_iload, ↓rx_nil, ↓ry_fvs, ↓ry_fvz, ↓ry_iau, ↓ry_li0s, ↓ry_li0z, ↓ry_lr0s, ↓ry_lr0z, ↓ry_obu, ↓ry_r1, ↓ry_ri, true_and, true_or, ↓bl_ob, ↓bl_r71, ↓bl_i76, ↓bl_i77, ↓bl_i78, ↓bl_i79, ↓bl_r80, ↓bl_r81, ↓rh_ob (ob _), ↓rh_ia (ct _), va_rfs, rz_set, rz_nol, rz_clr, List.set_cons_zero, List.set_cons_succ, rz_tr, Nat.reduceAdd, Int.reduceAdd, Int.reduceToNat, Int.reduceSub, Int.reduceNeg, Int.cast_ofNat_Int]
      rw [nI_clamp (by omega), ee.2.2.1, nI_clamp (by omega)]
      refine ⟨vp_in_nI (by omega) (by decide), vp_in_nI (by omega) (by decide), hK _ _ _ _ ?_⟩
      refine rz_cV (As := [.ref (a + (84 + 4 * t))]) (b := a + 74) (S := []) l_Bld_144 (by decide +kernel) rfl (bl_wi74 (hX1.1 1 (by decide))).1 rfl (Nat.le_of_ble_eq_true rfl) (Nat.le_refl _) (Nat.le_refl _) (c_Word_append (bl_wi74 (hX1.1 1 (by decide))) wh (by omega) (by rw [x11]; omega)) (fun r G' hr => ?_)
      obtain ⟨rfl, rfl⟩ := hr
      rw [bl_wp74, x11]
      simp only [Option.toList, List.nil_append]
      have okp : wd_ok 3 (we ++ hd t) := wd_ok_app ok0 wh.2.2.2.1 (by omega)
      have hX2 : bl_xo (va_up X1 1 (we ++ hd t)) := bl_xo_up hX1 (Or.inl ⟨Or.inl (by decide), okp⟩)
      generalize hX2d : va_up X1 1 (we ++ hd t) = X2 at *
      have x21 : X2 1 = we ++ hd t := by rw [← hX2d, va_up_self]
      have x2n : ∀ j, j ≠ 1 → X2 j = X j := fun j hj => by rw [← hX2d, va_up_ne _ _ hj, x1n j hj]
      have h43 : ∀ (h : List Nat) (X3 : Nat → List Nat), bh_it m hk hd acc e = some h → bl_xo X3 → bh_ag X X3 → X3 0 = h → rz_T w (d + 1) 0 0 m_Bld_findHead 0 0 143 [some (.ref a), some (.ref am), some (.int (nI q)), some (.int (rz_b acc.isSome)), some (.int (nI (so + i))), some (.int (nI e))] [] (mc_put (bo_put G a I A J X3 P) (a + 1) Im Am Jm Xm Pm) Q := by
        intro h X3 e1 e2 e3 e4
        refine rz_blk' [(.iconst 1, 1, 0, 0), (.istore_n 3, 1, 0, 0)] (by decide +kernel) (Nat.le_refl _) (Nat.le_refl _) (fun K R hK hR => ?_)
        simp only [rw_c1, ↓rx_iconst, ↓rx_istore_n3, ↓rx_nil, ↓ry_i1, ↓bl_ob, ↓bl_r71, ↓bl_i76, ↓bl_i77, ↓bl_i78, ↓bl_i79, ↓bl_r80, ↓bl_r81, rz_set, rz_nol, rz_clr, List.set_cons_zero, List.set_cons_succ, rz_tr, Nat.reduceAdd, Int.reduceAdd, Int.reduceToNat, Int.reduceSub, Int.reduceNeg, Int.cast_ofNat_Int]
        have := hnext (some h) X3 e1.symm e2 e3 (fun h' he => by cases he; exact e4)
        exact hK _ _ _ _ this
      have hit : bh_it m hk hd acc e = bh_mg acc (we ++ hd t) := by
        simp only [bh_it, hto, hwe, ck, if_true]
      refine rz_blk' [(.iload_n 3, 1, 0, 0), (.ifCond .eq 24, 3, 0, 0)] (by decide +kernel) (Nat.le_refl _) (Nat.le_refl _) (fun K R hK hR => ?_)
      simp only [↓rx_ifCond_eq, ↓rx_iload_n3, ↓rx_nil, ↓ry_i1, ↓ry_li0s, ↓ry_li0z, ↓bl_ob, ↓bl_r71, ↓bl_i76, ↓bl_i77, ↓bl_i78, ↓bl_i79, ↓bl_r80, ↓bl_r81, rz_set, rz_nol, rz_clr, List.set_cons_zero, List.set_cons_succ, rz_tr, Nat.reduceAdd, Int.reduceAdd, Int.reduceToNat, Int.reduceSub, Int.reduceNeg, Int.cast_ofNat_Int]
      rw [rz_b_0]
      refine ⟨fun ca => hK _ _ _ _ ?_, fun ca => hK _ _ _ _ ?_⟩
      · have ca : acc = none := by cases acc with | none => rfl | some x => cases ca
        have hit : bh_it m hk hd acc e = some (we ++ hd t) := by rw [hit, ca]; rfl
        refine rz_blk' [(.aload_n 0, 1, 0, 0), (.getfield 27, 3, 8, 3), (.aload_n 0, 1, 0, 0), (.getfield 31, 3, 8, 4)] (by decide +kernel) (Nat.le_refl _) (Nat.le_refl _) (fun K R hK hR => ?_)
        simp only [↓rx_aload_n0, ↓rx_getfield, ↓rx_nil, ↓ry_fvs, ↓ry_fvz, ↓ry_lr0s, ↓ry_lr0z, ↓ry_obu, ↓ry_r1, ↓bl_ob, ↓bl_r71, ↓bl_i76, ↓bl_i77, ↓bl_i78, ↓bl_i79, ↓bl_r80, ↓bl_r81, rz_set, rz_nol, rz_clr, List.set_cons_zero, List.set_cons_succ, rz_tr, Nat.reduceAdd, Int.reduceAdd, Int.reduceToNat, Int.reduceSub, Int.reduceNeg, Int.cast_ofNat_Int]
        refine hK _ _ _ _ ?_
        refine rz_cV (As := [.ref (a + 74)]) (b := a + 72) (S := []) l_Bld_86 (by decide +kernel) rfl (bl_wi72 (hX2.1 0 (by decide))).1 rfl (Nat.le_of_ble_eq_true rfl) (Nat.le_refl _) (Nat.le_refl _) (c_Word_copy (bl_wi72 (hX2.1 0 (by decide))) (bl_wi74 (hX2.1 1 (by decide))) (by omega)) (fun r G' hr => ?_)
        obtain ⟨rfl, rfl⟩ := hr
        rw [bl_wp72, x21, if_pos (by have := okp.1; omega)]
        simp only [Option.toList, List.nil_append]
        exact h43 _ _ hit (bl_xo_up hX2 (Or.inl ⟨Or.inl (by decide), okp⟩)) (fun j hj => by rw [va_up_ne _ _ (by omega)]; exact x2n j (by omega)) (va_up_self ..)
      · obtain ⟨h0, hh0⟩ : ∃ h, acc = some h := by
          cases acc with
          | none => exact absurd rfl ca
          | some x => exact ⟨x, rfl⟩
        have hx0 : X2 0 = h0 := by rw [x2n 0 (by decide)]; exact hacc h0 hh0
        have hit : bh_it m hk hd acc e = some (h0.take (wd_lcp h0 (we ++ hd t))) := by rw [hit, hh0]; rfl
        refine rz_blk' [(.aload_n 0, 1, 0, 0), (.getfield 27, 3, 8, 3), (.aload_n 0, 1, 0, 0), (.getfield 27, 3, 8, 3), (.aload_n 0, 1, 0, 0), (.getfield 31, 3, 8, 4)] (by decide +kernel) (Nat.le_refl _) (Nat.le_refl _) (fun K R hK hR => ?_)
        simp only [↓rx_aload_n0, ↓rx_getfield, ↓rx_nil, ↓ry_fvs, ↓ry_fvz, ↓ry_lr0s, ↓ry_lr0z, ↓ry_obu, ↓ry_r1, ↓bl_ob, ↓bl_r71, ↓bl_i76, ↓bl_i77, ↓bl_i78, ↓bl_i79, ↓bl_r80, ↓bl_r81, rz_set, rz_nol, rz_clr, List.set_cons_zero, List.set_cons_succ, rz_tr, Nat.reduceAdd, Int.reduceAdd, Int.reduceToNat, Int.reduceSub, Int.reduceNeg, Int.cast_ofNat_Int]
        refine hK _ _ _ _ ?_
        refine rz_cV (As := [.ref (a + 74)]) (b := a + 72) (S := [.ref (a + 72)]) l_Bld_147 (by decide +kernel) rfl (bl_wi72 (hX2.1 0 (by decide))).1 rfl (Nat.le_of_ble_eq_true rfl) (Nat.le_refl _) (Nat.le_refl _) (c_Word_alikeWith (bl_wi72 (hX2.1 0 (by decide))) (bl_wi74 (hX2.1 1 (by decide)))) (fun r G' hr => ?_)
        obtain ⟨rfl, hg⟩ := hr
        have hg := hg.symm
        subst hg
        simp only [Option.toList, List.cons_append, List.nil_append]
        have hl := wd_lcp_le (X2 0) (X2 1)
        have hl2 := (hX2.1 0 (by decide)).1
        refine rz_cV (As := [.int (nI (wd_lcp (X2 0) (X2 1)))]) (b := a + 72) (S := []) l_Bld_151 (by decide +kernel) rfl (bl_wi72 (hX2.1 0 (by decide))).1 rfl (Nat.le_of_ble_eq_true rfl) (Nat.le_refl _) (Nat.le_refl _) (c_Word_keepFirst (by omega) (bl_wi72 (hX2.1 0 (by decide)))) (fun r G' hr => ?_)
        obtain ⟨rfl, rfl⟩ := hr
        rw [bl_wp72]
        simp only [Option.toList, List.nil_append]
        have okt : wd_ok 3 ((X2 0).take (wd_lcp (X2 0) (X2 1))) := ⟨by rw [List.length_take]; omega, fun x hx => (hX2.1 0 (by decide)).2.1 x (List.mem_of_mem_take hx), by decide⟩
        refine rz_blk' [(.goto 14, 3, 0, 0)] (by decide +kernel) (Nat.le_refl _) (Nat.le_refl _) (fun K R hK hR => ?_)
        simp only [↓rx_goto, ↓rx_nil, ↓bl_ob, ↓bl_r71, ↓bl_i76, ↓bl_i77, ↓bl_i78, ↓bl_i79, ↓bl_r80, ↓bl_r81, rz_set, rz_nol, rz_clr, List.set_cons_zero, List.set_cons_succ, rz_tr, Nat.reduceAdd, Int.reduceAdd, Int.reduceToNat, Int.reduceSub, Int.reduceNeg, Int.cast_ofNat_Int]
        refine hK _ _ _ _ (h43 (h0.take (wd_lcp h0 (we ++ hd t))) _ hit (bl_xo_up hX2 (Or.inl ⟨Or.inl (by decide), okt⟩)) (fun j hj => by rw [va_up_ne _ _ (by omega)]; exact x2n j (by omega)) (by rw [va_up_self, hx0, x21]))
    · rw [if_neg ck]
      refine rz_blk' [(.ifCond .eq 74, 3, 0, 0)] (by decide +kernel) (Nat.le_refl _) (Nat.le_refl _) (fun K R hK hR => ?_)
      simp only [↓rx_ifCond_eq, ↓rx_nil, ↓ry_i1, ↓bl_ob, ↓bl_r71, ↓bl_i76, ↓bl_i77, ↓bl_i78, ↓bl_i79, ↓bl_r80, ↓bl_r81, rz_set, rz_nol, rz_clr, List.set_cons_zero, List.set_cons_succ, rz_tr, Nat.reduceAdd, Int.reduceAdd, Int.reduceToNat, Int.reduceSub, Int.reduceNeg, Int.cast_ofNat_Int]
      refine ⟨fun _ => hK _ _ _ _ (hnext acc X ?_ hX (fun _ _ => rfl) hacc), fun z => absurd trivial z⟩
      simp only [bh_it, hto]
      rw [if_neg ck]
end BHL

