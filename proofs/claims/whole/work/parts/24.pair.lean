/-! WriterDesk$PairSearch: endsApart, follow, visit, start -/
abbrev mc_S : Type := (Nat → Int32) × (Nat → Nat → Int32) × (Nat → Nat → Int64) × (Nat → List Nat) × (Nat → Nat)
/-- a machine outside a block of n cells at a, settled, with its value -/
def mc_at' (G : rz_G) (am a n : Nat) (S : mc_S) (m : mv_T) (cl : Nat) : Prop := mc_is G am S.1 S.2.1 S.2.2.1 S.2.2.2.1 S.2.2.2.2 ∧ mv_is S.1 S.2.1 S.2.2.2.1 m cl ∧ mv_set S.1 S.2.1 m cl ∧ mc_ap am a n
theorem ps_mc {G : rz_G} {a : Nat} {I : Nat → Int32} {A : Nat → Nat → Int32} {J : Nat → Nat → Int64} {X : Nat → List Nat} {P : Nat → Nat} {am : Nat} {S : mc_S} {m : mv_T} {cl : Nat} (h : mc_at' G am a 304 S m cl) : mc_is (ps_put G a I A J X P) am S.1 S.2.1 S.2.2.1 S.2.2.2.1 S.2.2.2.2 := mc_is_keep h.1 (fun o ho => ps_out (by have := h.2.2.2; unfold mc_ap at this; omega))

def ps_fin (m : mv_T) (q : Nat) : List Nat := (m.2.2.1 q).getD []
/-- both may end, and the outputs differ -/
def ps_ea (m1 m2 : mv_T) (c1 c2 p q : Nat) (ap : Bool) (xs ys : List Nat) : Bool := (c1 &&& mv_al m1 c1).testBit p && (c2 &&& mv_al m2 c2).testBit q && (ap || !decide (xs ++ ps_fin m1 p = ys ++ ps_fin m2 q))
theorem mv_fin {S : mc_S} {m : mv_T} {cl q : Nat} (hm : mv_is S.1 S.2.1 S.2.2.2.1 m cl) (hq : q < 6) (hb : (cl &&& mv_al m cl).testBit q = true) : S.2.2.2.1 (24 + q) = ps_fin m q := by
  have hcb : cl.testBit q = true := by
    rw [Nat.testBit_and, Bool.and_eq_true] at hb; exact hb.1
  obtain ⟨fs, hfs⟩ := Option.isSome_iff_exists.mp ((hm.2.2.2.2.2.2.2.2.1 q hq).mp hcb)
  rw [hm.2.2.2.2.2.2.2.2.2.2.1 q hq fs hfs, ps_fin, hfs]; rfl
theorem wd_ok_app {c : Nat} {xs ys : List Nat} (h : wd_ok c xs) (h2 : ∀ y ∈ ys, y < 16) (hl : xs.length + ys.length ≤ 16 * c) : wd_ok c (xs ++ ys) := ⟨by rw [List.length_append]; exact hl, fun x hx => (List.mem_append.mp hx).elim (h.2.1 x) (h2 x), h.2.2⟩
set_option maxRecDepth 100000 in
set_option maxHeartbeats 4000000 in
/-- endsApart(p, q, apart) -/
theorem c_Pair_endsApart {w : rz_w} {d : Nat} {G : rz_G} {a : Nat} {I : Nat → Int32} {A : Nat → Nat → Int32} {J : Nat → Nat → Int64} {X : Nat → List Nat} {P : Nat → Nat} {S1 S2 : mc_S} {m1 m2 : mv_T} {c1 c2 p q : Nat} {ap : Bool} (h1 : mc_at' G (P 0) a 304 S1 m1 c1) (h2 : mc_at' G (P 1) a 304 S2 m2 c2) (hp : p < 6) (hq : q < 6) (x0 : wd_ok 26 (X 0)) (x1 : wd_ok 26 (X 1)) (l0 : (X 0).length ≤ 368) (l1 : (X 1).length ≤ 368) :
    rz_C w (d + 1) 0 0 y_Pair_endsApart m_Pair_endsApart [.ref a, .int (nI p), .int (nI q), .int (rz_b ap)] (ps_put G a I A J X P) (fun r G' => r = some (.int (rz_b (ps_ea m1 m2 c1 c2 p q ap (X 0) (X 1)))) ∧ ∃ u v, wd_ok 26 u ∧ wd_ok 26 v ∧ G' = ps_put G a I A J (va_up (va_up X 0 u) 1 v) P) := by
  have hmc1 := ps_mc (a := a) (I := I) (A := A) (J := J) (X := X) (P := P) h1
  have hmc2 := ps_mc (a := a) (I := I) (A := A) (J := J) (X := X) (P := P) h2
  obtain ⟨-, hm1, hs1, ha1⟩ := id h1
  obtain ⟨-, hm2, hs2, ha2⟩ := id h2
  unfold mc_ap at ha1 ha2
  have hal1 := mv_al64 hm1
  have hal2 := mv_al64 hm2
  have i1 := c_Mach_isClosing (w := w) (d := d) (G := (ps_put G a I A J X P)) (a := P 0) (I := S1.1) (A := S1.2.1) (J := S1.2.2.1) (X := S1.2.2.2.1) (P := S1.2.2.2.2) (q := p) hm1.2.2.2.2.2.2.1 hm1.2.2.2.2.2.2.2.1 hs1.2.1 hal1 (by omega)
  have i2 := c_Mach_isClosing (w := w) (d := d) (G := (ps_put G a I A J X P)) (a := P 1) (I := S2.1) (A := S2.2.1) (J := S2.2.2.1) (X := S2.2.2.2.1) (P := S2.2.2.2.2) (q := q) hm2.2.2.2.2.2.2.1 hm2.2.2.2.2.2.2.2.1 hs2.2.1 hal2 (by omega)
  rw [mc_id hmc1] at i1
  rw [mc_id hmc2] at i2
  have ob1 : (ps_put G a I A J X P) (P 0) = some (.inr (2, mc_fs (P 0) S1.1 S1.2.2.2.2)) := hmc1 0 (by decide)
  have ob2 : (ps_put G a I A J X P) (P 1) = some (.inr (2, mc_fs (P 1) S2.1 S2.2.2.2.2)) := hmc2 0 (by decide)
  refine rz_enter' [some (.ref a), some (.int (nI p)), some (.int (nI q)), some (.int (rz_b ap))] (by decide +kernel) rfl rfl (Nat.le_of_ble_eq_true rfl) rfl ?_
  have hno : ps_ea m1 m2 c1 c2 p q ap (X 0) (X 1) = false → rz_T w (d + 1) 0 0 m_Pair_endsApart 0 0 22 [some (.ref a), some (.int (nI p)), some (.int (nI q)), some (.int (rz_b ap))] [] (ps_put G a I A J X P) (fun r G' => r = some (.int (rz_b (ps_ea m1 m2 c1 c2 p q ap (X 0) (X 1)))) ∧ ∃ u v, wd_ok 26 u ∧ wd_ok 26 v ∧ G' = ps_put G a I A J (va_up (va_up X 0 u) 1 v) P) := by
    intro e
    refine rz_blk' [(.iconst 0, 1, 0, 0), (.ireturn, 1, 0, 0)] (by decide +kernel) (Nat.le_refl _) (Nat.le_refl _) (fun K R hK hR => ?_)
    simp only [rw_c0, ↓rx_iconst, ↓rx_ireturn, ↓rx_nil, ↓ps_ob, ↓ps_i1, ↓ps_n1, ↓ps_i2, ↓ps_n2, ↓ps_i3, ↓ps_n3, ↓ps_r4, ↓ps_r5, ↓ps_i6, ↓ps_n6, ↓ps_i7, ↓ps_n7, ↓ps_i8, ↓ps_n8, ↓ps_i9, ↓ps_n9, ↓ps_i10, ↓ps_n10, ↓ps_i11, ↓ps_n11, rz_set, rz_nol, rz_clr, List.set_cons_zero, List.set_cons_succ, rz_tr, Nat.reduceAdd, Int.reduceAdd, Int.reduceToNat, Int.reduceSub, Int.reduceNeg, Int.cast_ofNat_Int]
    refine hR _ _ rz_nb_0 ⟨by rw [e]; rfl, X 0, X 1, x0, x1, ?_⟩
    congr 1
    funext j
    simp only [va_up]
    by_cases q1 : j = 1 <;> by_cases q2 : j = 0 <;> simp [q1, q2]
  refine rz_blk' [(.aload_n 0, 1, 0, 0), (.getfield 59, 3, 4, 0), (.iload_n 1, 1, 0, 0)] (by decide +kernel) (Nat.le_refl _) (Nat.le_refl _) (fun K R hK hR => ?_)
  simp only [↓rx_aload_n0, ↓rx_getfield, ↓rx_iload_n1, ↓rx_nil, ↓ry_fvs, ↓ry_fvz, ↓ry_li0s, ↓ry_li0z, ↓ry_lr0s, ↓ry_lr0z, ↓ry_obu, ↓ry_r1, ↓ps_ob, ↓ps_i1, ↓ps_n1, ↓ps_i2, ↓ps_n2, ↓ps_i3, ↓ps_n3, ↓ps_r4, ↓ps_r5, ↓ps_i6, ↓ps_n6, ↓ps_i7, ↓ps_n7, ↓ps_i8, ↓ps_n8, ↓ps_i9, ↓ps_n9, ↓ps_i10, ↓ps_n10, ↓ps_i11, ↓ps_n11, rz_set, rz_nol, rz_clr, List.set_cons_zero, List.set_cons_succ, rz_tr, Nat.reduceAdd, Int.reduceAdd, Int.reduceToNat, Int.reduceSub, Int.reduceNeg, Int.cast_ofNat_Int]
  refine hK _ _ _ _ ?_
  refine rz_cV (As := [.int (nI p)]) (b := P 0) (S := []) l_Pair_153 (by decide +kernel) rfl ob1 rfl (Nat.le_of_ble_eq_true rfl) (Nat.le_refl _) (Nat.le_refl _) (i1) (fun r G' hr => ?_)
  obtain ⟨rfl, hg⟩ := hr
  have hg := hg.symm
  subst hg
  simp only [Option.toList, List.cons_append, List.nil_append]
  by_cases b1 : (c1 &&& mv_al m1 c1).testBit p = true
  · rw [if_pos b1]
    refine rz_blk' [(.ifCond .eq 14, 3, 0, 0), (.aload_n 0, 1, 0, 0), (.getfield 63, 3, 4, 1), (.iload_n 2, 1, 0, 0)] (by decide +kernel) (Nat.le_refl _) (Nat.le_refl _) (fun K R hK hR => ?_)
    simp only [↓rx_aload_n0, ↓rx_getfield, ↓rx_ifCond_eq, ↓rx_iload_n2, ↓rx_nil, ↓ry_fvs, ↓ry_fvz, ↓ry_i1, ↓ry_li0s, ↓ry_li0z, ↓ry_lr0s, ↓ry_lr0z, ↓ry_obu, ↓ry_r1, ↓ps_ob, ↓ps_i1, ↓ps_n1, ↓ps_i2, ↓ps_n2, ↓ps_i3, ↓ps_n3, ↓ps_r4, ↓ps_r5, ↓ps_i6, ↓ps_n6, ↓ps_i7, ↓ps_n7, ↓ps_i8, ↓ps_n8, ↓ps_i9, ↓ps_n9, ↓ps_i10, ↓ps_n10, ↓ps_i11, ↓ps_n11, rz_set, rz_nol, rz_clr, List.set_cons_zero, List.set_cons_succ, rz_tr, Nat.reduceAdd, Int.reduceAdd, Int.reduceToNat, Int.reduceSub, Int.reduceNeg, Int.cast_ofNat_Int]
    refine ⟨fun c3 => absurd c3 (by decide), fun c3 => hK _ _ _ _ ?_⟩
    refine rz_cV (As := [.int (nI q)]) (b := P 1) (S := []) l_Pair_153 (by decide +kernel) rfl ob2 rfl (Nat.le_of_ble_eq_true rfl) (Nat.le_refl _) (Nat.le_refl _) (i2) (fun r G' hr => ?_)
    obtain ⟨rfl, hg⟩ := hr
    have hg := hg.symm
    subst hg
    simp only [Option.toList, List.cons_append, List.nil_append]
    by_cases b2 : (c2 &&& mv_al m2 c2).testBit q = true
    · rw [if_pos b2]
      refine rz_blk' [(.ifCond .ne 5, 3, 0, 0)] (by decide +kernel) (Nat.le_refl _) (Nat.le_refl _) (fun K R hK hR => ?_)
      simp only [↓rx_ifCond_ne, ↓rx_nil, ↓ry_i1, ↓ps_ob, ↓ps_i1, ↓ps_n1, ↓ps_i2, ↓ps_n2, ↓ps_i3, ↓ps_n3, ↓ps_r4, ↓ps_r5, ↓ps_i6, ↓ps_n6, ↓ps_i7, ↓ps_n7, ↓ps_i8, ↓ps_n8, ↓ps_i9, ↓ps_n9, ↓ps_i10, ↓ps_n10, ↓ps_i11, ↓ps_n11, rz_set, rz_nol, rz_clr, List.set_cons_zero, List.set_cons_succ, rz_tr, Nat.reduceAdd, Int.reduceAdd, Int.reduceToNat, Int.reduceSub, Int.reduceNeg, Int.cast_ofNat_Int]
      refine ⟨fun c4 => hK _ _ _ _ ?_, fun c4 => absurd c4 (by decide)⟩
      have f1 := mv_fin hm1 hp b1
      have f2 := mv_fin hm2 hq b2
      have k1 := mc_is_wi hmc1 hm1.2.2.2.2.2.2.2.2.2.2.2.2 (show 24 + p < 30 by omega)
      have k2 := mc_is_wi hmc2 hm2.2.2.2.2.2.2.2.2.2.2.2.2 (show 24 + q < 30 by omega)
      have z1 := k1.2.2
      have z2 := k2.2.2
      rw [f1] at z1
      rw [f2] at z2
      rw [f1, show P 0 + 10 + 2 * (24 + p) = P 0 + 58 + 2 * p by omega] at k1
      have r1 : (ps_put G a I A J X P) (P 0 + 7) = some (.inl (4, 6, .inr (.inr (.inr (.inr (fun q => some (P 0 + 58 + 2 * q))))))) := hmc1 7 (by decide)
      have fb1 := z1.1
      have fb2 := z2.1
      refine rz_blk' [(.aload_n 0, 1, 0, 0), (.getfield 52, 3, 4, 16), (.aload_n 0, 1, 0, 0), (.getfield 59, 3, 4, 0), (.getfield 157, 3, 2, 7), (.iload_n 1, 1, 0, 0), (.aaload, 1, 0, 0)] (by decide +kernel) (Nat.le_refl _) (Nat.le_refl _) (fun K R hK hR => ?_)
      simp only [Nat.reduceEqDiff, false_or, or_false, or_true, reduceIte, ↓rx_aaload, ↓rx_aload_n0, ↓rx_getfield, ↓rx_iload_n1, ↓rx_nil, ↓ry_fvs, ↓ry_fvz, ↓ry_li0s, ↓ry_li0z, ↓ry_lr0s, ↓ry_lr0z, ↓ry_obu, ↓ry_r1, ↓ry_ri, true_and, true_or, ↓ps_ob, ↓ps_i1, ↓ps_n1, ↓ps_i2, ↓ps_n2, ↓ps_i3, ↓ps_n3, ↓ps_r4, ↓ps_r5, ↓ps_i6, ↓ps_n6, ↓ps_i7, ↓ps_n7, ↓ps_i8, ↓ps_n8, ↓ps_i9, ↓ps_n9, ↓ps_i10, ↓ps_n10, ↓ps_i11, ↓ps_n11, ↓rh_ob ob1, ↓rh_ra r1, va_rfs, rz_set, rz_nol, rz_clr, List.set_cons_zero, List.set_cons_succ, rz_tr, Nat.reduceAdd, Int.reduceAdd, Int.reduceToNat, Int.reduceSub, Int.reduceNeg, Int.cast_ofNat_Int]
      rw [nI_clamp (by omega)]
      refine ⟨vp_in_nI hp (by decide), hK _ _ _ _ ?_⟩
      refine rz_cV (As := [.ref (P 0 + 58 + 2 * p)]) (b := a + 12) (S := []) l_Pair_125 (by decide +kernel) rfl (ps_wi12 x0).1 rfl (Nat.le_of_ble_eq_true rfl) (Nat.le_refl _) (Nat.le_refl _) (c_Word_append (ps_wi12 x0) k1 (by omega) (by omega)) (fun r G' hr => ?_)
      obtain ⟨rfl, rfl⟩ := hr
      rw [ps_wp12]
      simp only [Option.toList, List.nil_append]
      have y0 : wd_ok 26 (X 0 ++ ps_fin m1 p) := wd_ok_app x0 z1.2.1 (by omega)
      have y1 : wd_ok 26 (va_up X 0 (X 0 ++ ps_fin m1 p) 1) := by rw [va_up_ne _ _ (by decide)]; exact x1
      have hmc2' := ps_mc (a := a) (I := I) (A := A) (J := J) (X := va_up X 0 (X 0 ++ ps_fin m1 p)) (P := P) h2
      have ob2' : (ps_put G a I A J (va_up X 0 (X 0 ++ ps_fin m1 p)) P) (P 1) = some (.inr (2, mc_fs (P 1) S2.1 S2.2.2.2.2)) := hmc2' 0 (by decide)
      have r2 : (ps_put G a I A J (va_up X 0 (X 0 ++ ps_fin m1 p)) P) (P 1 + 7) = some (.inl (4, 6, .inr (.inr (.inr (.inr (fun q => some (P 1 + 58 + 2 * q))))))) := hmc2' 7 (by decide)
      have k2' := mc_is_wi hmc2' hm2.2.2.2.2.2.2.2.2.2.2.2.2 (show 24 + q < 30 by omega)
      rw [f2, show P 1 + 10 + 2 * (24 + q) = P 1 + 58 + 2 * q by omega] at k2'
      refine rz_blk' [(.aload_n 0, 1, 0, 0), (.getfield 56, 3, 4, 17), (.aload_n 0, 1, 0, 0), (.getfield 63, 3, 4, 1), (.getfield 157, 3, 2, 7), (.iload_n 2, 1, 0, 0), (.aaload, 1, 0, 0)] (by decide +kernel) (Nat.le_refl _) (Nat.le_refl _) (fun K R hK hR => ?_)
      simp only [Nat.reduceEqDiff, false_or, or_false, or_true, reduceIte, ↓rx_aaload, ↓rx_aload_n0, ↓rx_getfield, ↓rx_iload_n2, ↓rx_nil, ↓ry_fvs, ↓ry_fvz, ↓ry_li0s, ↓ry_li0z, ↓ry_lr0s, ↓ry_lr0z, ↓ry_obu, ↓ry_r1, ↓ry_ri, true_and, true_or, ↓ps_ob, ↓ps_i1, ↓ps_n1, ↓ps_i2, ↓ps_n2, ↓ps_i3, ↓ps_n3, ↓ps_r4, ↓ps_r5, ↓ps_i6, ↓ps_n6, ↓ps_i7, ↓ps_n7, ↓ps_i8, ↓ps_n8, ↓ps_i9, ↓ps_n9, ↓ps_i10, ↓ps_n10, ↓ps_i11, ↓ps_n11, ↓rh_ob ob2', ↓rh_ra r2, va_rfs, rz_set, rz_nol, rz_clr, List.set_cons_zero, List.set_cons_succ, rz_tr, Nat.reduceAdd, Int.reduceAdd, Int.reduceToNat, Int.reduceSub, Int.reduceNeg, Int.cast_ofNat_Int]
      rw [nI_clamp (by omega)]
      refine ⟨vp_in_nI hq (by decide), hK _ _ _ _ ?_⟩
      have e1 : va_up X 0 (X 0 ++ ps_fin m1 p) 1 = X 1 := va_up_ne _ _ (by decide)
      refine rz_cV (As := [.ref (P 1 + 58 + 2 * q)]) (b := a + 14) (S := []) l_Pair_125 (by decide +kernel) rfl (ps_wi14 y1).1 rfl (Nat.le_of_ble_eq_true rfl) (Nat.le_refl _) (Nat.le_refl _) (c_Word_append (ps_wi14 y1) k2' (by omega) (by rw [e1]; omega)) (fun r G' hr => ?_)
      obtain ⟨rfl, rfl⟩ := hr
      rw [ps_wp14, e1]
      simp only [Option.toList, List.nil_append]
      have y1' : wd_ok 26 (X 1 ++ ps_fin m2 q) := wd_ok_app x1 z2.2.1 (by omega)
      generalize hXX : va_up (va_up X 0 (X 0 ++ ps_fin m1 p)) 1 (X 1 ++ ps_fin m2 q) = X3
      have t0 : X3 0 = X 0 ++ ps_fin m1 p := by rw [← hXX, va_up_ne _ _ (by decide), va_up_self]
      have t1 : X3 1 = X 1 ++ ps_fin m2 q := by rw [← hXX, va_up_self]
      have o0 : wd_ok 26 (X3 0) := by rw [t0]; exact y0
      have o1 : wd_ok 26 (X3 1) := by rw [t1]; exact y1'
      have hend : ∀ r : Bool, r = ps_ea m1 m2 c1 c2 p q ap (X 0) (X 1) → rz_nb m_Pair_endsApart (some (.int (rz_b r))) ∧ (some (Value.int (rz_b r)) = some (.int (rz_b (ps_ea m1 m2 c1 c2 p q ap (X 0) (X 1)))) ∧ ∃ u v, wd_ok 26 u ∧ wd_ok 26 v ∧ ps_put G a I A J X3 P = ps_put G a I A J (va_up (va_up X 0 u) 1 v) P) := fun r hr => ⟨rz_b_nb, by rw [hr], _, _, y0, y1', by rw [hXX]⟩
      have hea : ps_ea m1 m2 c1 c2 p q ap (X 0) (X 1) = (ap || !decide (X3 0 = X3 1)) := by simp only [ps_ea, b1, b2, Bool.true_and, t0, t1]
      have h78 : ps_ea m1 m2 c1 c2 p q ap (X 0) (X 1) = false → rz_T w (d + 1) 0 0 m_Pair_endsApart 0 0 78 [some (.ref a), some (.int (nI p)), some (.int (nI q)), some (.int (rz_b ap))] [] (ps_put G a I A J X3 P) (fun r G' => r = some (.int (rz_b (ps_ea m1 m2 c1 c2 p q ap (X 0) (X 1)))) ∧ ∃ u v, wd_ok 26 u ∧ wd_ok 26 v ∧ G' = ps_put G a I A J (va_up (va_up X 0 u) 1 v) P) := by
        intro e
        refine rz_blk' [(.iconst 0, 1, 0, 0), (.ireturn, 1, 0, 0)] (by decide +kernel) (Nat.le_refl _) (Nat.le_refl _) (fun K R hK hR => ?_)
        simp only [rw_c0, ↓rx_iconst, ↓rx_ireturn, ↓rx_nil, ↓ps_ob, ↓ps_i1, ↓ps_n1, ↓ps_i2, ↓ps_n2, ↓ps_i3, ↓ps_n3, ↓ps_r4, ↓ps_r5, ↓ps_i6, ↓ps_n6, ↓ps_i7, ↓ps_n7, ↓ps_i8, ↓ps_n8, ↓ps_i9, ↓ps_n9, ↓ps_i10, ↓ps_n10, ↓ps_i11, ↓ps_n11, rz_set, rz_nol, rz_clr, List.set_cons_zero, List.set_cons_succ, rz_tr, Nat.reduceAdd, Int.reduceAdd, Int.reduceToNat, Int.reduceSub, Int.reduceNeg, Int.cast_ofNat_Int]
        exact hR _ _ (hend false e.symm).1 (hend false e.symm).2
      have h74 : ps_ea m1 m2 c1 c2 p q ap (X 0) (X 1) = true → rz_T w (d + 1) 0 0 m_Pair_endsApart 0 0 74 [some (.ref a), some (.int (nI p)), some (.int (nI q)), some (.int (rz_b ap))] [] (ps_put G a I A J X3 P) (fun r G' => r = some (.int (rz_b (ps_ea m1 m2 c1 c2 p q ap (X 0) (X 1)))) ∧ ∃ u v, wd_ok 26 u ∧ wd_ok 26 v ∧ G' = ps_put G a I A J (va_up (va_up X 0 u) 1 v) P) := by
        intro e
        refine rz_blk' [(.iconst 1, 1, 0, 0), (.goto 4, 3, 0, 0)] (by decide +kernel) (Nat.le_refl _) (Nat.le_refl _) (fun K R hK hR => ?_)
        simp only [rw_c1, ↓rx_goto, ↓rx_iconst, ↓rx_nil, ↓ps_ob, ↓ps_i1, ↓ps_n1, ↓ps_i2, ↓ps_n2, ↓ps_i3, ↓ps_n3, ↓ps_r4, ↓ps_r5, ↓ps_i6, ↓ps_n6, ↓ps_i7, ↓ps_n7, ↓ps_i8, ↓ps_n8, ↓ps_i9, ↓ps_n9, ↓ps_i10, ↓ps_n10, ↓ps_i11, ↓ps_n11, rz_set, rz_nol, rz_clr, List.set_cons_zero, List.set_cons_succ, rz_tr, Nat.reduceAdd, Int.reduceAdd, Int.reduceToNat, Int.reduceSub, Int.reduceNeg, Int.cast_ofNat_Int]
        refine hK _ _ _ _ ?_
        refine rz_blk' [(.ireturn, 1, 0, 0)] (by decide +kernel) (Nat.le_refl _) (Nat.le_refl _) (fun K R hK hR => ?_)
        simp only [↓rx_ireturn, ↓rx_nil, ↓ps_ob, ↓ps_i1, ↓ps_n1, ↓ps_i2, ↓ps_n2, ↓ps_i3, ↓ps_n3, ↓ps_r4, ↓ps_r5, ↓ps_i6, ↓ps_n6, ↓ps_i7, ↓ps_n7, ↓ps_i8, ↓ps_n8, ↓ps_i9, ↓ps_n9, ↓ps_i10, ↓ps_n10, ↓ps_i11, ↓ps_n11, rz_set, rz_nol, rz_clr, List.set_cons_zero, List.set_cons_succ, rz_tr, Nat.reduceAdd, Int.reduceAdd, Int.reduceToNat, Int.reduceSub, Int.reduceNeg, Int.cast_ofNat_Int]
        exact hR _ _ (hend true e.symm).1 (hend true e.symm).2
      refine rz_blk' [(.iload_n 3, 1, 0, 0), (.ifCond .ne 17, 3, 0, 0), (.aload_n 0, 1, 0, 0), (.getfield 52, 3, 4, 16), (.aload_n 0, 1, 0, 0), (.getfield 56, 3, 4, 17)] (by decide +kernel) (Nat.le_refl _) (Nat.le_refl _) (fun K R hK hR => ?_)
      simp only [↓rx_aload_n0, ↓rx_getfield, ↓rx_ifCond_ne, ↓rx_iload_n3, ↓rx_nil, ↓ry_fvs, ↓ry_fvz, ↓ry_i1, ↓ry_li0s, ↓ry_li0z, ↓ry_lr0s, ↓ry_lr0z, ↓ry_obu, ↓ry_r1, ↓ps_ob, ↓ps_i1, ↓ps_n1, ↓ps_i2, ↓ps_n2, ↓ps_i3, ↓ps_n3, ↓ps_r4, ↓ps_r5, ↓ps_i6, ↓ps_n6, ↓ps_i7, ↓ps_n7, ↓ps_i8, ↓ps_n8, ↓ps_i9, ↓ps_n9, ↓ps_i10, ↓ps_n10, ↓ps_i11, ↓ps_n11, rz_set, rz_nol, rz_clr, List.set_cons_zero, List.set_cons_succ, rz_tr, Nat.reduceAdd, Int.reduceAdd, Int.reduceToNat, Int.reduceSub, Int.reduceNeg, Int.cast_ofNat_Int]
      rw [rz_b_0]
      refine ⟨fun c5 => hK _ _ _ _ (h74 (by rw [hea]; simp at c5; simp [c5])), fun c5 => hK _ _ _ _ ?_⟩
      refine rz_cV (As := [.ref (a + 14)]) (b := a + 12) (S := []) l_Pair_149 (by decide +kernel) rfl (ps_wi12 o0).1 rfl (Nat.le_of_ble_eq_true rfl) (Nat.le_refl _) (Nat.le_refl _) (c_Word_isLike (ps_wi12 o0) (ps_wi14 o1)) (fun r G' hr => ?_)
      obtain ⟨rfl, hg⟩ := hr
      have hg := hg.symm
      subst hg
      simp only [Option.toList, List.cons_append, List.nil_append]
      by_cases b3 : X3 0 = X3 1
      · rw [if_pos b3]
        refine rz_blk' [(.ifCond .ne 7, 3, 0, 0)] (by decide +kernel) (Nat.le_refl _) (Nat.le_refl _) (fun K R hK hR => ?_)
        simp only [↓rx_ifCond_ne, ↓rx_nil, ↓ry_i1, ↓ps_ob, ↓ps_i1, ↓ps_n1, ↓ps_i2, ↓ps_n2, ↓ps_i3, ↓ps_n3, ↓ps_r4, ↓ps_r5, ↓ps_i6, ↓ps_n6, ↓ps_i7, ↓ps_n7, ↓ps_i8, ↓ps_n8, ↓ps_i9, ↓ps_n9, ↓ps_i10, ↓ps_n10, ↓ps_i11, ↓ps_n11, rz_set, rz_nol, rz_clr, List.set_cons_zero, List.set_cons_succ, rz_tr, Nat.reduceAdd, Int.reduceAdd, Int.reduceToNat, Int.reduceSub, Int.reduceNeg, Int.cast_ofNat_Int]
        exact ⟨fun c6 => hK _ _ _ _ (h78 (by rw [hea, c5]; simp [b3])), fun c6 => absurd c6 (by decide)⟩
      · rw [if_neg b3]
        refine rz_blk' [(.ifCond .ne 7, 3, 0, 0)] (by decide +kernel) (Nat.le_refl _) (Nat.le_refl _) (fun K R hK hR => ?_)
        simp only [↓rx_ifCond_ne, ↓rx_nil, ↓ry_i1, ↓ps_ob, ↓ps_i1, ↓ps_n1, ↓ps_i2, ↓ps_n2, ↓ps_i3, ↓ps_n3, ↓ps_r4, ↓ps_r5, ↓ps_i6, ↓ps_n6, ↓ps_i7, ↓ps_n7, ↓ps_i8, ↓ps_n8, ↓ps_i9, ↓ps_n9, ↓ps_i10, ↓ps_n10, ↓ps_i11, ↓ps_n11, rz_set, rz_nol, rz_clr, List.set_cons_zero, List.set_cons_succ, rz_tr, Nat.reduceAdd, Int.reduceAdd, Int.reduceToNat, Int.reduceSub, Int.reduceNeg, Int.cast_ofNat_Int]
        exact ⟨fun c6 => absurd trivial c6, fun c6 => hK _ _ _ _ (h74 (by rw [hea]; simp [b3]))⟩
    · rw [if_neg b2]
      refine rz_blk' [(.ifCond .ne 5, 3, 0, 0)] (by decide +kernel) (Nat.le_refl _) (Nat.le_refl _) (fun K R hK hR => ?_)
      simp only [↓rx_ifCond_ne, ↓rx_nil, ↓ry_i1, ↓ps_ob, ↓ps_i1, ↓ps_n1, ↓ps_i2, ↓ps_n2, ↓ps_i3, ↓ps_n3, ↓ps_r4, ↓ps_r5, ↓ps_i6, ↓ps_n6, ↓ps_i7, ↓ps_n7, ↓ps_i8, ↓ps_n8, ↓ps_i9, ↓ps_n9, ↓ps_i10, ↓ps_n10, ↓ps_i11, ↓ps_n11, rz_set, rz_nol, rz_clr, List.set_cons_zero, List.set_cons_succ, rz_tr, Nat.reduceAdd, Int.reduceAdd, Int.reduceToNat, Int.reduceSub, Int.reduceNeg, Int.cast_ofNat_Int]
      exact ⟨fun c4 => absurd trivial c4, fun c4 => hK _ _ _ _ (hno (by simp [ps_ea, b2]))⟩
  · rw [if_neg b1]
    refine rz_blk' [(.ifCond .eq 14, 3, 0, 0), (.aload_n 0, 1, 0, 0), (.getfield 63, 3, 4, 1), (.iload_n 2, 1, 0, 0)] (by decide +kernel) (Nat.le_refl _) (Nat.le_refl _) (fun K R hK hR => ?_)
    simp only [↓rx_aload_n0, ↓rx_getfield, ↓rx_ifCond_eq, ↓rx_iload_n2, ↓rx_nil, ↓ry_fvs, ↓ry_fvz, ↓ry_i1, ↓ry_li0s, ↓ry_li0z, ↓ry_lr0s, ↓ry_lr0z, ↓ry_obu, ↓ry_r1, ↓ps_ob, ↓ps_i1, ↓ps_n1, ↓ps_i2, ↓ps_n2, ↓ps_i3, ↓ps_n3, ↓ps_r4, ↓ps_r5, ↓ps_i6, ↓ps_n6, ↓ps_i7, ↓ps_n7, ↓ps_i8, ↓ps_n8, ↓ps_i9, ↓ps_n9, ↓ps_i10, ↓ps_n10, ↓ps_i11, ↓ps_n11, rz_set, rz_nol, rz_clr, List.set_cons_zero, List.set_cons_succ, rz_tr, Nat.reduceAdd, Int.reduceAdd, Int.reduceToNat, Int.reduceSub, Int.reduceNeg, Int.cast_ofNat_Int]
    exact ⟨fun c4 => hK _ _ _ _ (hno (by simp [ps_ea, b1])), fun c4 => absurd trivial c4⟩

def ps_f0 (c : Bool) (lr rr u v : List Nat) : List Nat := if c then lr else ps_cl (lr ++ u) (rr ++ v)
def ps_f1 (c : Bool) (lr rr u v : List Nat) : List Nat := if c then rr else ps_cr (lr ++ u) (rr ++ v)
def ps_fb (c : Bool) (lr rr u v : List Nat) : Bool := c || ps_ap (lr ++ u) (rr ++ v)
set_option maxRecDepth 100000 in
set_option maxHeartbeats 4000000 in
/-- follow(node, leftEdge, rightEdge) -/
theorem c_Pair_follow {w : rz_w} {d : Nat} {G : rz_G} {a : Nat} {I : Nat → Int32} {A : Nat → Nat → Int32} {J : Nat → Nat → Int64} {X : Nat → List Nat} {P : Nat → Nat} {S1 S2 : mc_S} {m1 m2 : mv_T} {c1 c2 i e f : Nat} {c : Bool} {lr rr : List Nat} (h1 : mc_at' G (P 0) a 304 S1 m1 c1) (h2 : mc_at' G (P 1) a 304 S2 m2 c2) (hi : i < 72) (he : e < m1.2.1.length) (hf : f < m2.2.1.length) (hc : A 2 i = rz_b c) (hlr : X (2 + 2 * i) = lr) (hrr : X (2 + (2 * i + 1)) = rr) (x0 : wd_ok 26 (X 0)) (x1 : wd_ok 26 (X 1)) (x2 : wd_ok 26 lr) (x3 : wd_ok 26 rr) (l0 : lr.length ≤ 368) (l1 : rr.length ≤ 368) :
    rz_C w (d + 2) 0 0 y_Pair_follow m_Pair_follow [.ref a, .int (nI i), .int (nI e), .int (nI f)] (ps_put G a I A J X P) (fun r G' => r = some (.int (rz_b (ps_fb c lr rr (mv_e m1 e).2.2.2 (mv_e m2 f).2.2.2))) ∧ G' = ps_put G a I A J (va_up (va_up X 0 (ps_f0 c lr rr (mv_e m1 e).2.2.2 (mv_e m2 f).2.2.2)) 1 (ps_f1 c lr rr (mv_e m1 e).2.2.2 (mv_e m2 f).2.2.2)) P) := by
  obtain ⟨-, hm1, hs1, ha1⟩ := id h1
  obtain ⟨-, hm2, hs2, ha2⟩ := id h2
  unfold mc_ap at ha1 ha2
  have k2 := ps_wi (G := G) (a := a) (I := I) (A := A) (J := J) (X := X) (P := P) (j := 2 * i) (by omega) (by rw [hlr]; exact x2)
  rw [hlr] at k2
  refine rz_enter' [some (.ref a), some (.int (nI i)), some (.int (nI e)), some (.int (nI f))] (by decide +kernel) rfl rfl (Nat.le_of_ble_eq_true rfl) rfl ?_
  refine rz_blk' [(.aload_n 0, 1, 0, 0), (.getfield 52, 3, 4, 16), (.aload_n 0, 1, 0, 0), (.getfield 24, 3, 4, 6), (.iload_n 1, 1, 0, 0), (.aaload, 1, 0, 0)] (by decide +kernel) (Nat.le_refl _) (Nat.le_refl _) (fun K R hK hR => ?_)
  simp only [Nat.reduceEqDiff, false_or, or_false, or_true, reduceIte, ↓rx_aaload, ↓rx_aload_n0, ↓rx_getfield, ↓rx_iload_n1, ↓rx_nil, ↓ry_fvs, ↓ry_fvz, ↓ry_li0s, ↓ry_li0z, ↓ry_lr0s, ↓ry_lr0z, ↓ry_obu, ↓ry_r1, ↓ry_ri, true_and, true_or, ↓ps_ob, ↓ps_i1, ↓ps_n1, ↓ps_i2, ↓ps_n2, ↓ps_i3, ↓ps_n3, ↓ps_r4, ↓ps_r5, ↓ps_i6, ↓ps_n6, ↓ps_i7, ↓ps_n7, ↓ps_i8, ↓ps_n8, ↓ps_i9, ↓ps_n9, ↓ps_i10, ↓ps_n10, ↓ps_i11, ↓ps_n11, va_rfs, rz_set, rz_nol, rz_clr, List.set_cons_zero, List.set_cons_succ, rz_tr, Nat.reduceAdd, Int.reduceAdd, Int.reduceToNat, Int.reduceSub, Int.reduceNeg, Int.cast_ofNat_Int]
  rw [nI_clamp (by omega)]
  refine ⟨vp_in_nI hi (by decide), hK _ _ _ _ ?_⟩
  refine rz_cV (As := [.ref (a + (16 + 2 * (2 * i)))]) (b := a + 12) (S := []) l_Pair_82 (by decide +kernel) rfl (ps_wi12 x0).1 rfl (Nat.le_of_ble_eq_true rfl) (Nat.le_refl _) (Nat.le_refl _) (c_Word_copy (ps_wi12 x0) k2 (by omega)) (fun r G' hq => ?_)
  obtain ⟨rfl, rfl⟩ := hq
  rw [ps_wp12, if_pos (by omega)]
  simp only [Option.toList, List.nil_append]
  generalize hX1 : va_up X 0 lr = X1
  have t0 : X1 0 = lr := by rw [← hX1, va_up_self]
  have tn : ∀ j, j ≠ 0 → X1 j = X j := fun j hj => by rw [← hX1, va_up_ne _ _ hj]
  have o0 : wd_ok 26 (X1 0) := by rw [t0]; exact x2
  have o1 : wd_ok 26 (X1 1) := by rw [tn 1 (by decide)]; exact x1
  have k3 := ps_wi (G := G) (a := a) (I := I) (A := A) (J := J) (P := P) (X := X1) (j := 2 * i + 1) (by omega) (by rw [tn _ (by omega), hrr]; exact x3)
  rw [tn _ (by omega), hrr] at k3
  refine rz_blk' [(.aload_n 0, 1, 0, 0), (.getfield 56, 3, 4, 17), (.aload_n 0, 1, 0, 0), (.getfield 28, 3, 4, 7), (.iload_n 1, 1, 0, 0), (.aaload, 1, 0, 0)] (by decide +kernel) (Nat.le_refl _) (Nat.le_refl _) (fun K R hK hR => ?_)
  simp only [Nat.reduceEqDiff, false_or, or_false, or_true, reduceIte, ↓rx_aaload, ↓rx_aload_n0, ↓rx_getfield, ↓rx_iload_n1, ↓rx_nil, ↓ry_fvs, ↓ry_fvz, ↓ry_li0s, ↓ry_li0z, ↓ry_lr0s, ↓ry_lr0z, ↓ry_obu, ↓ry_r1, ↓ry_ri, true_and, true_or, ↓ps_ob, ↓ps_i1, ↓ps_n1, ↓ps_i2, ↓ps_n2, ↓ps_i3, ↓ps_n3, ↓ps_r4, ↓ps_r5, ↓ps_i6, ↓ps_n6, ↓ps_i7, ↓ps_n7, ↓ps_i8, ↓ps_n8, ↓ps_i9, ↓ps_n9, ↓ps_i10, ↓ps_n10, ↓ps_i11, ↓ps_n11, va_rfs, rz_set, rz_nol, rz_clr, List.set_cons_zero, List.set_cons_succ, rz_tr, Nat.reduceAdd, Int.reduceAdd, Int.reduceToNat, Int.reduceSub, Int.reduceNeg, Int.cast_ofNat_Int]
  rw [nI_clamp (by omega)]
  refine ⟨vp_in_nI hi (by decide), hK _ _ _ _ ?_⟩
  refine rz_cV (As := [.ref (a + (16 + 2 * (2 * i + 1)))]) (b := a + 14) (S := []) l_Pair_82 (by decide +kernel) rfl (ps_wi14 o1).1 rfl (Nat.le_of_ble_eq_true rfl) (Nat.le_refl _) (Nat.le_refl _) (c_Word_copy (ps_wi14 o1) k3 (by omega)) (fun r G' hq => ?_)
  obtain ⟨rfl, rfl⟩ := hq
  rw [ps_wp14, if_pos (by omega)]
  simp only [Option.toList, List.nil_append]
  generalize hX2 : va_up X1 1 rr = X2
  have s0 : X2 0 = lr := by rw [← hX2, va_up_ne _ _ (by decide), t0]
  have s1 : X2 1 = rr := by rw [← hX2, va_up_self]
  have hXX : ∀ u v, va_up (va_up X2 0 u) 1 v = va_up (va_up X 0 u) 1 v := by
    intro u v
    rw [← hX2, ← hX1]
    funext j
    simp only [va_up]
    by_cases q1 : j = 1 <;> by_cases q2 : j = 0 <;> simp [q1, q2]
  have q0 : wd_ok 26 (X2 0) := by rw [s0]; exact x2
  have q1 : wd_ok 26 (X2 1) := by rw [s1]; exact x3
  refine rz_blk' [(.aload_n 0, 1, 0, 0), (.getfield 18, 3, 4, 5), (.iload_n 1, 1, 0, 0), (.baload, 1, 0, 0), (.ifCond .eq 5, 3, 0, 0), (.iconst 1, 1, 0, 0), (.ireturn, 1, 0, 0)] (by decide +kernel) (Nat.le_refl _) (Nat.le_refl _) (fun K R hK hR => ?_)
  simp only [Nat.reduceEqDiff, false_or, or_false, or_true, reduceIte, rw_c1, ↓rx_aload_n0, ↓rx_baload, ↓rx_getfield, ↓rx_iconst, ↓rx_ifCond_eq, ↓rx_iload_n1, ↓rx_ireturn, ↓rx_nil, ↓ry_fvs, ↓ry_fvz, ↓ry_i1, ↓ry_iau, ↓ry_li0s, ↓ry_li0z, ↓ry_lr0s, ↓ry_lr0z, ↓ry_obu, ↓ry_r1, ↓ry_ri, true_and, true_or, ↓ps_ob, ↓ps_i1, ↓ps_n1, ↓ps_i2, ↓ps_n2, ↓ps_i3, ↓ps_n3, ↓ps_r4, ↓ps_r5, ↓ps_i6, ↓ps_n6, ↓ps_i7, ↓ps_n7, ↓ps_i8, ↓ps_n8, ↓ps_i9, ↓ps_n9, ↓ps_i10, ↓ps_n10, ↓ps_i11, ↓ps_n11, rz_set, rz_nol, rz_clr, List.set_cons_zero, List.set_cons_succ, rz_tr, Nat.reduceAdd, Int.reduceAdd, Int.reduceToNat, Int.reduceSub, Int.reduceNeg, Int.cast_ofNat_Int]
  rw [nI_clamp (by omega), hc, rz_b_0]
  refine ⟨vp_in_nI hi (by decide), fun b1 => hK _ _ _ _ ?_, fun b1 => ?_⟩
  rotate_left
  · have b1 : c = true := by simpa using b1
    refine hR _ _ rz_nb_1 ⟨by simp only [ps_fb, b1, Bool.true_or]; rfl, ?_⟩
    simp only [ps_f0, ps_f1, b1, if_true]
    rw [← hXX]
    congr 1
    rw [← hX2, ← hX1]
    funext j
    simp only [va_up]
    by_cases q1 : j = 1 <;> by_cases q2 : j = 0 <;> simp [q1, q2]
  have hmc1 := ps_mc (a := a) (I := I) (A := A) (J := J) (X := X2) (P := P) h1
  have ob1 : (ps_put G a I A J X2 P) (P 0) = some (.inr (2, mc_fs (P 0) S1.1 S1.2.2.2.2)) := hmc1 0 (by decide)
  have r1 : (ps_put G a I A J X2 P) (P 0 + 4) = some (.inl (4, 24, .inr (.inr (.inr (.inr (fun e => some (P 0 + 10 + 2 * e))))))) := hmc1 4 (by decide)
  have n1 := hm1.2.2.2.2.1
  have n2 := hm2.2.2.2.2.1
  have e1 := (hm1.2.2.2.2.2.1 e he).2.2.2.1
  have e2 := (hm2.2.2.2.2.2.1 f hf).2.2.2.1
  rw [← mv_e_get he] at e1
  rw [← mv_e_get hf] at e2
  have kk1 := mc_is_wi hmc1 hm1.2.2.2.2.2.2.2.2.2.2.2.2 (show e < 30 by omega)
  rw [e1] at kk1
  have z1 := kk1.2.2
  have fb1 := z1.1
  refine rz_blk' [(.aload_n 0, 1, 0, 0), (.getfield 52, 3, 4, 16), (.aload_n 0, 1, 0, 0), (.getfield 59, 3, 4, 0), (.getfield 122, 3, 2, 5), (.iload_n 2, 1, 0, 0), (.aaload, 1, 0, 0)] (by decide +kernel) (Nat.le_refl _) (Nat.le_refl _) (fun K R hK hR => ?_)
  simp only [Nat.reduceEqDiff, false_or, or_false, or_true, reduceIte, ↓rx_aaload, ↓rx_aload_n0, ↓rx_getfield, ↓rx_iload_n2, ↓rx_nil, ↓ry_fvs, ↓ry_fvz, ↓ry_li0s, ↓ry_li0z, ↓ry_lr0s, ↓ry_lr0z, ↓ry_obu, ↓ry_r1, ↓ry_ri, true_and, true_or, ↓ps_ob, ↓ps_i1, ↓ps_n1, ↓ps_i2, ↓ps_n2, ↓ps_i3, ↓ps_n3, ↓ps_r4, ↓ps_r5, ↓ps_i6, ↓ps_n6, ↓ps_i7, ↓ps_n7, ↓ps_i8, ↓ps_n8, ↓ps_i9, ↓ps_n9, ↓ps_i10, ↓ps_n10, ↓ps_i11, ↓ps_n11, ↓rh_ob ob1, ↓rh_ra r1, va_rfs, rz_set, rz_nol, rz_clr, List.set_cons_zero, List.set_cons_succ, rz_tr, Nat.reduceAdd, Int.reduceAdd, Int.reduceToNat, Int.reduceSub, Int.reduceNeg, Int.cast_ofNat_Int]
  rw [nI_clamp (by omega)]
  refine ⟨vp_in_nI (by omega) (by decide), hK _ _ _ _ ?_⟩
  refine rz_cV (As := [.ref (P 0 + 10 + 2 * e)]) (b := a + 12) (S := []) l_Pair_125 (by decide +kernel) rfl (ps_wi12 q0).1 rfl (Nat.le_of_ble_eq_true rfl) (Nat.le_refl _) (Nat.le_refl _) (c_Word_append (ps_wi12 q0) kk1 (by omega) (by rw [s0]; omega)) (fun r G' hq => ?_)
  obtain ⟨rfl, rfl⟩ := hq
  rw [ps_wp12, s0]
  simp only [Option.toList, List.nil_append]
  generalize hX3 : va_up X2 0 (lr ++ (mv_e m1 e).2.2.2) = X3
  have v0 : X3 0 = lr ++ (mv_e m1 e).2.2.2 := by rw [← hX3, va_up_self]
  have v1 : X3 1 = rr := by rw [← hX3, va_up_ne _ _ (by decide), s1]
  have p0 : wd_ok 26 (X3 0) := by rw [v0]; exact wd_ok_app x2 z1.2.1 (by omega)
  have p1 : wd_ok 26 (X3 1) := by rw [v1]; exact x3
  have hmc2 := ps_mc (a := a) (I := I) (A := A) (J := J) (X := X3) (P := P) h2
  have ob2 : (ps_put G a I A J X3 P) (P 1) = some (.inr (2, mc_fs (P 1) S2.1 S2.2.2.2.2)) := hmc2 0 (by decide)
  have r2 : (ps_put G a I A J X3 P) (P 1 + 4) = some (.inl (4, 24, .inr (.inr (.inr (.inr (fun e => some (P 1 + 10 + 2 * e))))))) := hmc2 4 (by decide)
  have kk2 := mc_is_wi hmc2 hm2.2.2.2.2.2.2.2.2.2.2.2.2 (show f < 30 by omega)
  rw [e2] at kk2
  have z2 := kk2.2.2
  have fb2 := z2.1
  refine rz_blk' [(.aload_n 0, 1, 0, 0), (.getfield 56, 3, 4, 17), (.aload_n 0, 1, 0, 0), (.getfield 63, 3, 4, 1), (.getfield 122, 3, 2, 5), (.iload_n 3, 1, 0, 0), (.aaload, 1, 0, 0)] (by decide +kernel) (Nat.le_refl _) (Nat.le_refl _) (fun K R hK hR => ?_)
  simp only [Nat.reduceEqDiff, false_or, or_false, or_true, reduceIte, ↓rx_aaload, ↓rx_aload_n0, ↓rx_getfield, ↓rx_iload_n3, ↓rx_nil, ↓ry_fvs, ↓ry_fvz, ↓ry_li0s, ↓ry_li0z, ↓ry_lr0s, ↓ry_lr0z, ↓ry_obu, ↓ry_r1, ↓ry_ri, true_and, true_or, ↓ps_ob, ↓ps_i1, ↓ps_n1, ↓ps_i2, ↓ps_n2, ↓ps_i3, ↓ps_n3, ↓ps_r4, ↓ps_r5, ↓ps_i6, ↓ps_n6, ↓ps_i7, ↓ps_n7, ↓ps_i8, ↓ps_n8, ↓ps_i9, ↓ps_n9, ↓ps_i10, ↓ps_n10, ↓ps_i11, ↓ps_n11, ↓rh_ob ob2, ↓rh_ra r2, va_rfs, rz_set, rz_nol, rz_clr, List.set_cons_zero, List.set_cons_succ, rz_tr, Nat.reduceAdd, Int.reduceAdd, Int.reduceToNat, Int.reduceSub, Int.reduceNeg, Int.cast_ofNat_Int]
  rw [nI_clamp (by omega)]
  refine ⟨vp_in_nI (by omega) (by decide), hK _ _ _ _ ?_⟩
  refine rz_cV (As := [.ref (P 1 + 10 + 2 * f)]) (b := a + 14) (S := []) l_Pair_125 (by decide +kernel) rfl (ps_wi14 p1).1 rfl (Nat.le_of_ble_eq_true rfl) (Nat.le_refl _) (Nat.le_refl _) (c_Word_append (ps_wi14 p1) kk2 (by omega) (by rw [v1]; omega)) (fun r G' hq => ?_)
  obtain ⟨rfl, rfl⟩ := hq
  rw [ps_wp14, v1]
  simp only [Option.toList, List.nil_append]
  generalize hX4 : va_up X3 1 (rr ++ (mv_e m2 f).2.2.2) = X4
  have w0 : X4 0 = lr ++ (mv_e m1 e).2.2.2 := by rw [← hX4, va_up_ne _ _ (by decide), v0]
  have w1 : X4 1 = rr ++ (mv_e m2 f).2.2.2 := by rw [← hX4, va_up_self]
  have y0 : wd_ok 26 (X4 0) := by rw [w0, ← v0]; exact p0
  have y1 : wd_ok 26 (X4 1) := by rw [w1]; exact wd_ok_app x3 z2.2.1 (by omega)
  refine rz_blk' [(.aload_n 0, 1, 0, 0)] (by decide +kernel) (Nat.le_refl _) (Nat.le_refl _) (fun K R hK hR => ?_)
  simp only [↓rx_aload_n0, ↓rx_nil, ↓ry_lr0s, ↓ry_lr0z, ↓ps_ob, ↓ps_i1, ↓ps_n1, ↓ps_i2, ↓ps_n2, ↓ps_i3, ↓ps_n3, ↓ps_r4, ↓ps_r5, ↓ps_i6, ↓ps_n6, ↓ps_i7, ↓ps_n7, ↓ps_i8, ↓ps_n8, ↓ps_i9, ↓ps_n9, ↓ps_i10, ↓ps_n10, ↓ps_i11, ↓ps_n11, rz_set, rz_nol, rz_clr, List.set_cons_zero, List.set_cons_succ, rz_tr, Nat.reduceAdd, Int.reduceAdd, Int.reduceToNat, Int.reduceSub, Int.reduceNeg, Int.cast_ofNat_Int]
  refine hK _ _ _ _ ?_
  refine rz_cV (As := []) (b := a) (S := []) l_Pair_86 (by decide +kernel) rfl ps_at0 rfl (Nat.le_of_ble_eq_true rfl) (Nat.le_refl _) (Nat.le_refl _) (c_Pair_cutAlike y0 y1) (fun r G' hq => ?_)
  obtain ⟨rfl, rfl⟩ := hq
  simp only [Option.toList, List.cons_append, List.nil_append]
  refine rz_blk' [(.ireturn, 1, 0, 0)] (by decide +kernel) (Nat.le_refl _) (Nat.le_refl _) (fun K R hK hR => ?_)
  simp only [↓rx_ireturn, ↓rx_nil, ↓ps_ob, ↓ps_i1, ↓ps_n1, ↓ps_i2, ↓ps_n2, ↓ps_i3, ↓ps_n3, ↓ps_r4, ↓ps_r5, ↓ps_i6, ↓ps_n6, ↓ps_i7, ↓ps_n7, ↓ps_i8, ↓ps_n8, ↓ps_i9, ↓ps_n9, ↓ps_i10, ↓ps_n10, ↓ps_i11, ↓ps_n11, rz_set, rz_nol, rz_clr, List.set_cons_zero, List.set_cons_succ, rz_tr, Nat.reduceAdd, Int.reduceAdd, Int.reduceToNat, Int.reduceSub, Int.reduceNeg, Int.cast_ofNat_Int]
  refine hR _ _ rz_b_nb ⟨by simp only [ps_fb, b1, Bool.false_or, w0, w1], ?_⟩
  simp only [ps_f0, ps_f1, b1, Bool.false_eq_true, if_false, w0, w1]
  congr 1
  rw [← hX4, ← hX3, ← hX2, ← hX1]
  funext j
  simp only [va_up]
  by_cases q1 : j = 1 <;> by_cases q2 : j = 0 <;> simp [q1, q2]

