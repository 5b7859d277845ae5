/-! WriterDesk$Builder: makeEarly, the final words -/
def me_f (m : mv_T) (cl : Nat) (hd : Nat → List Nat) (k p : Nat) : Option (List Nat) := if p < k ∧ (cl &&& mv_al m cl).testBit p = true then some ((ps_fin m p).drop (hd p).length) else none
def me_c (m : mv_T) (cl : Nat) : Nat → Nat
  | 0 => 0
  | k + 1 => if (cl &&& mv_al m cl).testBit k then me_c m cl k ||| 2 ^ k else me_c m cl k
theorem me_c_tb {m : mv_T} {cl : Nat} : ∀ (k p : Nat), (me_c m cl k).testBit p = (decide (p < k) && (cl &&& mv_al m cl).testBit p)
  | 0, p => by simp [me_c]
  | k + 1, p => by
    have ih := me_c_tb (m := m) (cl := cl) k p
    simp only [me_c]
    by_cases c : (cl &&& mv_al m cl).testBit k = true
    · rw [if_pos c, Nat.testBit_or, ih, Nat.testBit_two_pow]
      by_cases cp : p = k
      · subst cp; simp [c]
      · have e1 : decide (k = p) = false := by simp; omega
        have e2 : decide (p < k + 1) = decide (p < k) := by simp; omega
        rw [e1, e2, Bool.or_false]
    · rw [if_neg c, ih]
      by_cases cp : p = k
      · subst cp; simp [c]
      · have e2 : decide (p < k + 1) = decide (p < k) := by simp; omega
        rw [e2]
theorem me_c64 {m : mv_T} {cl : Nat} (h : cl < 64) : ∀ k, k ≤ 6 → me_c m cl k < 64
  | 0, _ => by simp [me_c]
  | k + 1, hk => by
    have ih := me_c64 (m := m) h k (by omega)
    simp only [me_c]
    split
    · exact Nat.or_lt_two_pow (n := 6) ih (Nat.pow_lt_pow_right (by decide) (by omega))
    · exact ih
section MEL
variable {w : rz_w} {d : Nat} {G : rz_G} {a am : Nat} {I : Nat → Int32} {A : Nat → Nat → Int32} {J : Nat → Nat → Int64} {X : Nat → List Nat} {P : Nat → Nat} {M1 : mc_S} {m : mv_T} {cl : Nat} {S : bh_T} {op : List Nat} {Am : Nat → Nat → Int32} {Jm : Nat → Nat → Int64} {Pm : Nat → Nat} {Q : Option Value → rz_G → Prop}
set_option maxRecDepth 100000 in
set_option maxHeartbeats 4000000 in
theorem me_l (h1 : mc_at' G am a 588 M1 m cl) (hS : bh_st I X S) (hfix : ∀ q, q < 6 → (cl &&& mv_al m cl).testBit q = true → (S.2 q).length ≤ (ps_fin m q).length) :
    ∀ (k q : Nat) (Im : Nat → Int32) (Xm : Nat → List Nat), q + k = m.1 → Im 3 = nI 0 → mv_is Im Am Xm (m.1, [], me_f m cl S.2 q, op) (me_c m cl q) →
      (∀ Im Xm z2, Im 3 = nI 0 → mv_is Im Am Xm (m.1, [], me_f m cl S.2 m.1, op) (me_c m cl m.1) → rz_T w (d + 3) 0 0 m_Bld_makeEarly 0 0 112 [some (.ref a), some (.ref am), z2, none, none] [] (mc_put (bo_put G a I A J X P) (a + 1) Im Am Jm Xm Pm) Q) →
      rz_T w (d + 3) 0 0 m_Bld_makeEarly 0 0 43 [some (.ref a), some (.ref am), some (.int (nI q)), none, none] [] (mc_put (bo_put G a I A J X P) (a + 1) Im Am Jm Xm Pm) Q := by
  intro k
  obtain ⟨-, hm1, hs1, ha1⟩ := id h1
  unfold mc_ap at ha1
  have hal := mv_al64 hm1
  have m0 := hm1.1
  have m6 := hm1.2.2.1
  have c64 := hm1.2.2.2.2.2.2.2.1
  obtain ⟨s0, s1, s2, s3⟩ := id hS
  induction k with
  | zero =>
    intro q Im Xm hk h30 hM hc
    have ob : (mc_put (bo_put G a I A J X P) (a + 1) Im Am Jm Xm Pm) am = some (.inr (2, mc_fs am M1.1 M1.2.2.2.2)) := bl_mc h1 0 (by decide)
    refine rz_blk' [(.iload_n 2, 1, 0, 0), (.aload_n 1, 1, 0, 0), (.getfield 118, 3, 2, 0), (.if_icmp .ge 64, 3, 0, 0)] (by decide +kernel) (Nat.le_refl _) (Nat.le_refl _) (fun K R hK hR => ?_)
    simp only [↓rx_aload_n1, ↓rx_getfield, ↓rx_if_icmp_ge, ↓rx_iload_n2, ↓rx_nil, ↓ry_fvs, ↓ry_fvz, ↓ry_i2, ↓ry_li0s, ↓ry_li0z, ↓ry_lr0s, ↓ry_lr0z, ↓ry_obu, ↓ry_r1, ↓bl_ob, ↓bl_r71, ↓bl_i76, ↓bl_i77, ↓bl_i78, ↓bl_i79, ↓bl_r80, ↓bl_r81, ↓mc_ob, ↓mc_i1, ↓mc_n1, ↓mc_i2, ↓mc_n2, ↓mc_i3, ↓mc_n3, ↓mc_r4, ↓mc_r7, ↓mc_i8, ↓mc_n8, ↓mc_i9, ↓mc_n9, ↓rh_ob ob, m0, rz_set, rz_nol, rz_clr, List.set_cons_zero, List.set_cons_succ, rz_tr, Nat.reduceAdd, Int.reduceAdd, Int.reduceToNat, Int.reduceSub, Int.reduceNeg, Int.cast_ofNat_Int]
    rw [nI_leI (by omega) (by omega)]
    have : q = m.1 := by omega
    subst this
    exact ⟨fun c => hK _ _ _ _ (hc Im Xm _ h30 hM), fun c => by omega⟩
  | succ k ih =>
    intro q Im Xm hk h30 hM hc
    have hmc : ∀ Im Xm, mc_is (mc_put (bo_put G a I A J X P) (a + 1) Im Am Jm Xm Pm) am M1.1 M1.2.1 M1.2.2.1 M1.2.2.2.1 M1.2.2.2.2 := fun Im Xm => bl_mc h1
    have ob : ∀ Im Xm, (mc_put (bo_put G a I A J X P) (a + 1) Im Am Jm Xm Pm) am = some (.inr (2, mc_fs am M1.1 M1.2.2.2.2)) := fun Im Xm => hmc Im Xm 0 (by decide)
    have cc : ∀ Im Xm, (mc_put (bo_put G a I A J X P) (a + 1) Im Am Jm Xm Pm) (am + 7) = some (.inl (4, 6, .inr (.inr (.inr (.inr (fun q => some (am + 58 + 2 * q))))))) := fun Im Xm => hmc Im Xm 7 (by decide)
    have i1 := c_Mach_isClosing (w := w) (d := d + 2) (G := (mc_put (bo_put G a I A J X P) (a + 1) Im Am Jm Xm Pm)) (a := am) (I := M1.1) (A := M1.2.1) (J := M1.2.2.1) (X := M1.2.2.2.1) (P := M1.2.2.2.2) (q := q) hm1.2.2.2.2.2.2.1 hm1.2.2.2.2.2.2.2.1 hs1.2.1 hal (by omega)
    rw [mc_id (hmc Im Xm)] at i1
    refine rz_blk' [(.iload_n 2, 1, 0, 0), (.aload_n 1, 1, 0, 0), (.getfield 118, 3, 2, 0), (.if_icmp .ge 64, 3, 0, 0), (.aload_n 1, 1, 0, 0), (.iload_n 2, 1, 0, 0)] (by decide +kernel) (Nat.le_refl _) (Nat.le_refl _) (fun K R hK hR => ?_)
    simp only [↓rx_aload_n1, ↓rx_getfield, ↓rx_if_icmp_ge, ↓rx_iload_n2, ↓rx_nil, ↓ry_fvs, ↓ry_fvz, ↓ry_i2, ↓ry_li0s, ↓ry_li0z, ↓ry_lr0s, ↓ry_lr0z, ↓ry_obu, ↓ry_r1, ↓bl_ob, ↓bl_r71, ↓bl_i76, ↓bl_i77, ↓bl_i78, ↓bl_i79, ↓bl_r80, ↓bl_r81, ↓mc_ob, ↓mc_i1, ↓mc_n1, ↓mc_i2, ↓mc_n2, ↓mc_i3, ↓mc_n3, ↓mc_r4, ↓mc_r7, ↓mc_i8, ↓mc_n8, ↓mc_i9, ↓mc_n9, ↓rh_ob (ob _ _), m0, rz_set, rz_nol, rz_clr, List.set_cons_zero, List.set_cons_succ, rz_tr, Nat.reduceAdd, Int.reduceAdd, Int.reduceToNat, Int.reduceSub, Int.reduceNeg, Int.cast_ofNat_Int]
    rw [nI_leI (by omega) (by omega)]
    refine ⟨fun c => by omega, fun c => hK _ _ _ _ ?_⟩
    refine rz_cV (As := [.int (nI q)]) (b := am) (S := []) l_Bld_127 (by decide +kernel) rfl (ob _ _) rfl (Nat.le_of_ble_eq_true rfl) (Nat.le_refl _) (Nat.le_refl _) (i1) (fun r G' hr => ?_)
    obtain ⟨rfl, hg⟩ := hr
    have hg := hg.symm
    subst hg
    simp only [Option.toList, List.cons_append, List.nil_append]
    have hnext : ∀ Im Xm, Im 3 = nI 0 → mv_is Im Am Xm (m.1, [], me_f m cl S.2 (q + 1), op) (me_c m cl (q + 1)) → rz_T w (d + 3) 0 0 m_Bld_makeEarly 0 0 106 [some (.ref a), some (.ref am), some (.int (nI q)), none, none] [] (mc_put (bo_put G a I A J X P) (a + 1) Im Am Jm Xm Pm) Q := by
      intro Im Xm h3n hM2
      refine rz_blk' [(.iinc 2 1, 3, 0, 0), (.goto (-66), 3, 0, 0)] (by decide +kernel) (Nat.le_refl _) (Nat.le_refl _) (fun K R hK hR => ?_)
      simp only [rw_c1, ↓rx_goto, ↓rx_iinc, ↓rx_nil, ↓ry_li0s, ↓ry_li0z, ↓bl_ob, ↓bl_r71, ↓bl_i76, ↓bl_i77, ↓bl_i78, ↓bl_i79, ↓bl_r80, ↓bl_r81, ↓mc_ob, ↓mc_i1, ↓mc_n1, ↓mc_i2, ↓mc_n2, ↓mc_i3, ↓mc_n3, ↓mc_r4, ↓mc_r7, ↓mc_i8, ↓mc_n8, ↓mc_i9, ↓mc_n9, nI_add, rz_set, rz_nol, rz_clr, List.set_cons_zero, List.set_cons_succ, rz_tr, Nat.reduceAdd, Int.reduceAdd, Int.reduceToNat, Int.reduceSub, Int.reduceNeg, Int.cast_ofNat_Int]
      exact hK _ _ _ _ (ih (q + 1) Im Xm (by omega) h3n hM2 hc)
    by_cases ck : (cl &&& mv_al m cl).testBit q = true
    rotate_left
    · rw [if_neg ck]
      have e1 : me_c m cl (q + 1) = me_c m cl q := by simp only [me_c]; rw [if_neg ck]
      have e2 : me_f m cl S.2 (q + 1) = me_f m cl S.2 q := by
        funext p
        simp only [me_f]
        by_cases cp : p = q
        · subst cp; rw [if_neg (fun z => ck z.2), if_neg (fun z => ck z.2)]
        · by_cases c2 : p < q ∧ (cl &&& mv_al m cl).testBit p = true
          · rw [if_pos c2, if_pos ⟨by omega, c2.2⟩]
          · rw [if_neg c2, if_neg (fun z => c2 ⟨by omega, z.2⟩)]
      refine rz_blk' [(.ifCond .eq 50, 3, 0, 0)] (by decide +kernel) (Nat.le_refl _) (Nat.le_refl _) (fun K R hK hR => ?_)
      simp only [↓rx_ifCond_eq, ↓rx_nil, ↓ry_i1, ↓bl_ob, ↓bl_r71, ↓bl_i76, ↓bl_i77, ↓bl_i78, ↓bl_i79, ↓bl_r80, ↓bl_r81, ↓mc_ob, ↓mc_i1, ↓mc_n1, ↓mc_i2, ↓mc_n2, ↓mc_i3, ↓mc_n3, ↓mc_r4, ↓mc_r7, ↓mc_i8, ↓mc_n8, ↓mc_i9, ↓mc_n9, rz_set, rz_nol, rz_clr, List.set_cons_zero, List.set_cons_succ, rz_tr, Nat.reduceAdd, Int.reduceAdd, Int.reduceToNat, Int.reduceSub, Int.reduceNeg, Int.cast_ofNat_Int]
      exact ⟨fun _ => hK _ _ _ _ (hnext Im Xm h30 (by rw [e1, e2]; exact hM)), fun z => absurd trivial z⟩
    rw [if_pos ck]
    refine rz_blk' [(.ifCond .eq 50, 3, 0, 0), (.aload_n 0, 1, 0, 0), (.getfield 12, 3, 8, 0), (.iload_n 2, 1, 0, 0)] (by decide +kernel) (Nat.le_refl _) (Nat.le_refl _) (fun K R hK hR => ?_)
    simp only [↓rx_aload_n0, ↓rx_getfield, ↓rx_ifCond_eq, ↓rx_iload_n2, ↓rx_nil, ↓ry_fvs, ↓ry_fvz, ↓ry_i1, ↓ry_li0s, ↓ry_li0z, ↓ry_lr0s, ↓ry_lr0z, ↓ry_obu, ↓ry_r1, ↓bl_ob, ↓bl_r71, ↓bl_i76, ↓bl_i77, ↓bl_i78, ↓bl_i79, ↓bl_r80, ↓bl_r81, ↓mc_ob, ↓mc_i1, ↓mc_n1, ↓mc_i2, ↓mc_n2, ↓mc_i3, ↓mc_n3, ↓mc_r4, ↓mc_r7, ↓mc_i8, ↓mc_n8, ↓mc_i9, ↓mc_n9, rz_set, rz_nol, rz_clr, List.set_cons_zero, List.set_cons_succ, rz_tr, Nat.reduceAdd, Int.reduceAdd, Int.reduceToNat, Int.reduceSub, Int.reduceNeg, Int.cast_ofNat_Int]
    refine ⟨fun z => absurd z (by decide), fun _ => hK _ _ _ _ ?_⟩
    obtain ⟨v0, v1, v2, v3, v4, v5, v6, v7, v8, v9, v10, v11, v12⟩ := id hM
    have q6 : q < 6 := by omega
    refine rz_cV (As := [.int (nI q)]) (b := a + 1) (S := []) l_Bld_161 (by decide +kernel) rfl (mc_at (o := 0) (by decide)) rfl (Nat.le_of_ble_eq_true rfl) (Nat.le_refl _) (Nat.le_refl _) (c_Mach_giveClosing v6 v7 q6) (fun r G' hr => ?_)
    obtain ⟨rfl, rfl⟩ := hr
    simp only [Option.toList, List.nil_append]
    generalize hIm2 : upd (upd Im 2 _) 3 _ = Im2
    have ff := mv_fin hm1 q6 ck
    have kk : ∀ Xm, wd_is (mc_put (bo_put G a I A J X P) (a + 1) Im2 Am Jm Xm Pm) (am + 58 + 2 * q) 3 (ps_fin m q) := fun Xm => by
      have := mc_is_wi (hmc Im2 Xm) hm1.2.2.2.2.2.2.2.2.2.2.2.2 (show 24 + q < 30 by omega)
      rw [ff, show am + 10 + 2 * (24 + q) = am + 58 + 2 * q by omega] at this; exact this
    have we : ∀ Xm, mc_ww Xm → wd_is (mc_put (bo_put G a I A J X P) (a + 1) Im2 Am Jm Xm Pm) (a + 1 + 58 + 2 * q) 3 (Xm (24 + q)) := fun Xm h => by
      have := mc_wi (G := bo_put G a I A J X P) (a := a + 1) (I := Im2) (A := Am) (J := Jm) (P := Pm) h (show 24 + q < 30 by omega)
      rw [show a + 1 + 10 + 2 * (24 + q) = a + 1 + 58 + 2 * q by omega] at this; exact this
    have wp : ∀ Xm xs, wd_put (mc_put (bo_put G a I A J X P) (a + 1) Im2 Am Jm Xm Pm) (a + 1 + 58 + 2 * q) 3 xs = mc_put (bo_put G a I A J X P) (a + 1) Im2 Am Jm (va_up Xm (24 + q) xs) Pm := fun Xm xs => by
      have := mc_wp (G := bo_put G a I A J X P) (a := a + 1) (I := Im2) (A := Am) (J := Jm) (X := Xm) (P := Pm) (xs := xs) (show 24 + q < 30 by omega)
      rw [show a + 1 + 10 + 2 * (24 + q) = a + 1 + 58 + 2 * q by omega] at this; exact this
    have ww : ∀ Xm xs, mc_ww Xm → wd_ok 3 xs → mc_ww (va_up Xm (24 + q) xs) := fun Xm xs h h2 k hk => by
      by_cases c : k = 24 + q
      · subst c; rw [va_up_self]; exact h2
      · rw [va_up_ne _ _ c]; exact h k hk
    refine rz_blk' [(.aload_n 0, 1, 0, 0), (.getfield 12, 3, 8, 0), (.getfield 131, 3, 2, 7), (.iload_n 2, 1, 0, 0), (.aaload, 1, 0, 0), (.aload_n 1, 1, 0, 0), (.getfield 131, 3, 2, 7), (.iload_n 2, 1, 0, 0), (.aaload, 1, 0, 0)] (by decide +kernel) (Nat.le_refl _) (Nat.le_refl _) (fun K R hK hR => ?_)
    simp only [Nat.reduceEqDiff, false_or, or_false, or_true, reduceIte, ↓rx_aaload, ↓rx_aload_n0, ↓rx_aload_n1, ↓rx_getfield, ↓rx_iload_n2, ↓rx_nil, ↓ry_fvs, ↓ry_fvz, ↓ry_li0s, ↓ry_li0z, ↓ry_lr0s, ↓ry_lr0z, ↓ry_obu, ↓ry_r1, ↓ry_ri, true_and, true_or, ↓bl_ob, ↓bl_r71, ↓bl_i76, ↓bl_i77, ↓bl_i78, ↓bl_i79, ↓bl_r80, ↓bl_r81, ↓mc_ob, ↓mc_i1, ↓mc_n1, ↓mc_i2, ↓mc_n2, ↓mc_i3, ↓mc_n3, ↓mc_r4, ↓mc_r7, ↓mc_i8, ↓mc_n8, ↓mc_i9, ↓mc_n9, ↓rh_ob (ob _ _), ↓rh_ra (cc _ _), va_rfs, rz_set, rz_nol, rz_clr, List.set_cons_zero, List.set_cons_succ, rz_tr, Nat.reduceAdd, Int.reduceAdd, Int.reduceToNat, Int.reduceSub, Int.reduceNeg, Int.cast_ofNat_Int]
    rw [nI_clamp (by omega)]
    refine ⟨vp_in_nI (by omega) (by decide), vp_in_nI (by omega) (by decide), hK _ _ _ _ ?_⟩
    refine rz_cV (As := [.ref (am + 58 + 2 * q)]) (b := a + 1 + 58 + 2 * q) (S := []) l_Bld_86 (by decide +kernel) rfl (we Xm v12).1 rfl (Nat.le_of_ble_eq_true rfl) (Nat.le_refl _) (Nat.le_refl _) (c_Word_copy (we Xm v12) (kk Xm) (by omega)) (fun r G' hr => ?_)
    obtain ⟨rfl, rfl⟩ := hr
    rw [wp, if_pos (by have := (kk Xm).2.2.1; omega)]
    simp only [Option.toList, List.nil_append]
    have ok1 := ww Xm _ v12 (kk Xm).2.2
    have we1 := we _ ok1
    rw [va_up_self] at we1
    have wh := bl_wiH (G := G) (a := a) (I := I) (A := A) (J := J) (X := X) (P := P) (Im := Im2) (Am := Am) (Jm := Jm) (Xm := va_up Xm (24 + q) (ps_fin m q)) (Pm := Pm) (q := q) q6 (s3.2.1 q q6)
    rw [s2 q q6] at wh
    refine rz_blk' [(.aload_n 0, 1, 0, 0), (.getfield 12, 3, 8, 0), (.getfield 131, 3, 2, 7), (.iload_n 2, 1, 0, 0), (.aaload, 1, 0, 0), (.aload_n 0, 1, 0, 0), (.getfield 20, 3, 8, 1), (.iload_n 2, 1, 0, 0), (.aaload, 1, 0, 0)] (by decide +kernel) (Nat.le_refl _) (Nat.le_refl _) (fun K R hK hR => ?_)
    simp only [Nat.reduceEqDiff, false_or, or_false, or_true, reduceIte, ↓rx_aaload, ↓rx_aload_n0, ↓rx_getfield, ↓rx_iload_n2, ↓rx_nil, ↓ry_fvs, ↓ry_fvz, ↓ry_li0s, ↓ry_li0z, ↓ry_lr0s, ↓ry_lr0z, ↓ry_obu, ↓ry_r1, ↓ry_ri, true_and, true_or, ↓bl_ob, ↓bl_r71, ↓bl_i76, ↓bl_i77, ↓bl_i78, ↓bl_i79, ↓bl_r80, ↓bl_r81, ↓mc_ob, ↓mc_i1, ↓mc_n1, ↓mc_i2, ↓mc_n2, ↓mc_i3, ↓mc_n3, ↓mc_r4, ↓mc_r7, ↓mc_i8, ↓mc_n8, ↓mc_i9, ↓mc_n9, va_rfs, rz_set, rz_nol, rz_clr, List.set_cons_zero, List.set_cons_succ, rz_tr, Nat.reduceAdd, Int.reduceAdd, Int.reduceToNat, Int.reduceSub, Int.reduceNeg, Int.cast_ofNat_Int]
    rw [nI_clamp (by omega)]
    refine ⟨vp_in_nI (by omega) (by decide), vp_in_nI (by omega) (by decide), hK _ _ _ _ ?_⟩
    refine rz_blk' [(.getfield 164, 3, 0, 1)] (by decide +kernel) (Nat.le_refl _) (Nat.le_refl _) (fun K R hK hR => ?_)
    simp only [↓rx_getfield, ↓rx_nil, ↓ry_fvs, ↓ry_fvz, ↓ry_obu, ↓ry_r1, ↓bl_ob, ↓bl_r71, ↓bl_i76, ↓bl_i77, ↓bl_i78, ↓bl_i79, ↓bl_r80, ↓bl_r81, ↓mc_ob, ↓mc_i1, ↓mc_n1, ↓mc_i2, ↓mc_n2, ↓mc_i3, ↓mc_n3, ↓mc_r4, ↓mc_r7, ↓mc_i8, ↓mc_n8, ↓mc_i9, ↓mc_n9, ↓rh_ob wh.1, rz_set, rz_nol, rz_clr, List.set_cons_zero, List.set_cons_succ, rz_tr, Nat.reduceAdd, Int.reduceAdd, Int.reduceToNat, Int.reduceSub, Int.reduceNeg, Int.cast_ofNat_Int]
    refine hK _ _ _ _ ?_
    refine rz_cV (As := [.int (nI (S.2 q).length)]) (b := a + 1 + 58 + 2 * q) (S := []) l_Bld_167 (by decide +kernel) rfl we1.1 rfl (Nat.le_of_ble_eq_true rfl) (Nat.le_refl _) (Nat.le_refl _) (c_Word_drop we1 (hfix q q6 ck)) (fun r G' hr => ?_)
    obtain ⟨rfl, rfl⟩ := hr
    rw [wp]
    simp only [Option.toList, List.nil_append]
    have okd : wd_ok 3 ((ps_fin m q).drop (S.2 q).length) := wd_ok_drop (kk Xm).2.2
    have ok2 := ww _ _ ok1 okd
    refine hnext Im2 _ (by rw [← hIm2, pk_us]) ⟨?_, v1, v2, ?_, v4, fun e he => absurd he (Nat.not_lt_zero _), ?_, me_c64 c64 (q + 1) (by omega), fun p hp => ?_, fun p hp => ?_, fun p hp xs hxs => ?_, ?_, ok2⟩
    · rw [← hIm2, pk_un (by decide), pk_un (by decide)]; exact v0
    · rw [← hIm2, pk_un (by decide), pk_un (by decide)]; exact v3
    · rw [← hIm2, pk_un (by decide), pk_us]; simp only [me_c]; rw [if_pos ck]
    · rw [me_c_tb]
      simp only [me_f]
      by_cases c2 : p < q + 1 ∧ (cl &&& mv_al m cl).testBit p = true
      · rw [if_pos c2]; simp [c2.1, c2.2]
      · rw [if_neg c2]
        simp only [Option.isSome_none, Bool.false_eq_true, iff_false, Bool.not_eq_true, Bool.and_eq_false_iff, decide_eq_false_iff_not]
        by_cases c3 : p < q + 1
        · exact Or.inr (by simpa using fun z => c2 ⟨c3, z⟩)
        · exact Or.inl c3
    · dsimp only at hp ⊢
      simp only [me_f]
      rw [if_neg (by omega)]
    · dsimp only at hxs
      simp only [me_f] at hxs
      by_cases cp : p = q
      · subst cp
        rw [if_pos ⟨by omega, ck⟩] at hxs
        cases hxs
        rw [va_up_self]
      · rw [va_up_ne _ _ (by omega), va_up_ne _ _ (by omega)]
        refine v10 p hp xs ?_
        dsimp only
        simp only [me_f]
        by_cases c2 : p < q + 1 ∧ (cl &&& mv_al m cl).testBit p = true
        · rw [if_pos c2] at hxs; rw [if_pos ⟨by omega, c2.2⟩]; exact hxs
        · rw [if_neg c2] at hxs; cases hxs
    · rw [va_up_ne _ _ (by omega), va_up_ne _ _ (by omega)]; exact v11
end MEL

