/-! WriterDesk$Builder: findHeads -/
def bh_sw (m : mv_T) (cl : Nat) : Nat → Nat → bh_T × Bool → bh_T × Bool
  | 0, _, U => U
  | k + 1, q, U => bh_sw m cl k (q + 1) (if (mv_al m cl).testBit q then ((bh_1 m cl U.1 q).1, U.2 || (bh_1 m cl U.1 q).2) else U)
def bh_go (m : mv_T) (cl : Nat) : Nat → Bool → bh_T → bh_T
  | 0, _, S => S
  | k + 1, ch, S => if ch then bh_go m cl k (bh_sw m cl m.1 0 (S, false)).2 (bh_sw m cl m.1 0 (S, false)).1 else S
def bh_kp (I I' : Nat → Int32) (X X' : Nat → List Nat) : Prop := I' 1 = I 1 ∧ X' 2 = X 2 ∧ ∀ j, 9 ≤ j → X' j = X j
theorem bh_kp.trans {I I' I2 : Nat → Int32} {X X' X2 : Nat → List Nat} (h : bh_kp I I' X X') (h2 : bh_kp I' I2 X' X2) : bh_kp I I2 X X2 := ⟨h2.1.trans h.1, h2.2.1.trans h.2.1, fun j hj => (h2.2.2 j hj).trans (h.2.2 j hj)⟩
section BHS
variable {w : rz_w} {d : Nat} {G : rz_G} {a am : Nat} {A : Nat → Nat → Int32} {J : Nat → Nat → Int64} {P : Nat → Nat} {Im : Nat → Int32} {Am : Nat → Nat → Int32} {Jm : Nat → Nat → Int64} {Xm : Nat → List Nat} {Pm : Nat → Nat} {M1 : mc_S} {m : mv_T} {cl : Nat} {Inv : bh_T → Prop} {Q : Option Value → rz_G → Prop}
set_option maxRecDepth 100000 in
set_option maxHeartbeats 4000000 in
theorem bh_sl (h1 : mc_at' G am a 588 M1 m cl) (h3 : mv_w3 m) (hs : ∀ S q, Inv S → q < 6 → (mv_al m cl).testBit q = true → Inv (bh_1 m cl S q).1) (hb : ∀ S, Inv S → ∀ q, q < 6 → S.1.testBit q = true → (S.2 q).length ≤ 45) {t : Int32} :
    ∀ (k q : Nat) (U : bh_T × Bool) (I : Nat → Int32) (X : Nat → List Nat), q + k = m.1 → bh_st I X U.1 → Inv U.1 →
      (∀ I' X' z4, bh_st I' X' (bh_sw m cl k q U).1 → Inv (bh_sw m cl k q U).1 → bh_kp I I' X X' → rz_T w (d + 2) 0 0 m_Bld_findHeads 0 0 64 [some (.ref a), some (.ref am), some (.int (rz_b (bh_sw m cl k q U).2)), some (.int t), z4] [] (mc_put (bo_put G a I' A J X' P) (a + 1) Im Am Jm Xm Pm) Q) →
      rz_T w (d + 2) 0 0 m_Bld_findHeads 0 0 25 [some (.ref a), some (.ref am), some (.int (rz_b U.2)), some (.int t), some (.int (nI q))] [] (mc_put (bo_put G a I A J X P) (a + 1) Im Am Jm Xm Pm) Q := by
  intro k
  obtain ⟨-, hm1, hs1, ha1⟩ := id h1
  have hal := mv_al64 hm1
  have m0 := hm1.1
  have m6 := hm1.2.2.1
  induction k with
  | zero =>
    intro q U I X hk hS hI hc
    have ob : (mc_put (bo_put G a I A J X P) (a + 1) Im Am Jm Xm Pm) am = some (.inr (2, mc_fs am M1.1 M1.2.2.2.2)) := bl_mc h1 0 (by decide)
    refine rz_blk' [(.iload 4, 2, 0, 0), (.aload_n 1, 1, 0, 0), (.getfield 118, 3, 2, 0), (.if_icmp .ge 33, 3, 0, 0)] (by decide +kernel) (Nat.le_refl _) (Nat.le_refl _) (fun K R hK hR => ?_)
    simp only [↓rx_aload_n1, ↓rx_getfield, ↓rx_if_icmp_ge, ↓rx_iload, ↓rx_nil, ↓ry_fvs, ↓ry_fvz, ↓ry_i2, ↓ry_li0s, ↓ry_li0z, ↓ry_lr0s, ↓ry_lr0z, ↓ry_obu, ↓ry_r1, ↓bl_ob, ↓bl_r71, ↓bl_i76, ↓bl_i77, ↓bl_i78, ↓bl_i79, ↓bl_r80, ↓bl_r81, ↓rh_ob ob, m0, rz_set, rz_nol, rz_clr, List.set_cons_zero, List.set_cons_succ, rz_tr, Nat.reduceAdd, Int.reduceAdd, Int.reduceToNat, Int.reduceSub, Int.reduceNeg, Int.cast_ofNat_Int]
    rw [nI_leI (by omega) (by omega)]
    exact ⟨fun c => hK _ _ _ _ (hc I X _ hS hI ⟨rfl, rfl, fun _ _ => rfl⟩), fun c => by omega⟩
  | succ k ih =>
    intro q U I X hk hS hI hc
    have ob : (mc_put (bo_put G a I A J X P) (a + 1) Im Am Jm Xm Pm) am = some (.inr (2, mc_fs am M1.1 M1.2.2.2.2)) := bl_mc h1 0 (by decide)
    simp only [bh_sw] at hc
    refine rz_blk' [(.iload 4, 2, 0, 0), (.aload_n 1, 1, 0, 0), (.getfield 118, 3, 2, 0), (.if_icmp .ge 33, 3, 0, 0), (.aload_n 1, 1, 0, 0), (.getfield 68, 3, 2, 10), (.iload 4, 2, 0, 0)] (by decide +kernel) (Nat.le_refl _) (Nat.le_refl _) (fun K R hK hR => ?_)
    simp only [↓rx_aload_n1, ↓rx_getfield, ↓rx_if_icmp_ge, ↓rx_iload, ↓rx_nil, ↓ry_fvs, ↓ry_fvz, ↓ry_i2, ↓ry_li0s, ↓ry_li0z, ↓ry_lr0s, ↓ry_lr0z, ↓ry_obu, ↓ry_r1, ↓bl_ob, ↓bl_r71, ↓bl_i76, ↓bl_i77, ↓bl_i78, ↓bl_i79, ↓bl_r80, ↓bl_r81, ↓rh_ob ob, m0, hs1.2.1, rz_set, rz_nol, rz_clr, List.set_cons_zero, List.set_cons_succ, rz_tr, Nat.reduceAdd, Int.reduceAdd, Int.reduceToNat, Int.reduceSub, Int.reduceNeg, Int.cast_ofNat_Int]
    rw [nI_leI (by omega) (by omega)]
    refine ⟨fun c => by omega, fun c => hK _ _ _ _ ?_⟩
    refine rz_cN (As := [.int (nI (mv_al m cl)), .int (nI q)]) (S := []) l_Bld_119 (by decide +kernel) rfl (Nat.le_of_ble_eq_true rfl) (Nat.le_refl _) (Nat.le_refl _) (c_Desk_has (by omega) (by omega)) (fun r G' hr => ?_)
    obtain ⟨rfl, hg⟩ := hr
    have hg := hg.symm
    subst hg
    simp only [Option.toList, List.cons_append, List.nil_append]
    have hnext : ∀ (R2 : bh_T × Bool) I2 X2, R2 = (if (mv_al m cl).testBit q then ((bh_1 m cl U.1 q).1, U.2 || (bh_1 m cl U.1 q).2) else U) → bh_st I2 X2 R2.1 → Inv R2.1 → bh_kp I I2 X X2 → rz_T w (d + 2) 0 0 m_Bld_findHeads 0 0 58 [some (.ref a), some (.ref am), some (.int (rz_b R2.2)), some (.int t), some (.int (nI q))] [] (mc_put (bo_put G a I2 A J X2 P) (a + 1) Im Am Jm Xm Pm) Q := by
      intro R2 I2 X2 e1 e2 e3 e4
      refine rz_blk' [(.iinc 4 1, 3, 0, 0), (.goto (-36), 3, 0, 0)] (by decide +kernel) (Nat.le_refl _) (Nat.le_refl _) (fun K R hK hR => ?_)
      simp only [rw_c1, ↓rx_goto, ↓rx_iinc, ↓rx_nil, ↓ry_li0s, ↓ry_li0z, ↓bl_ob, ↓bl_r71, ↓bl_i76, ↓bl_i77, ↓bl_i78, ↓bl_i79, ↓bl_r80, ↓bl_r81, nI_add, rz_set, rz_nol, rz_clr, List.set_cons_zero, List.set_cons_succ, rz_tr, Nat.reduceAdd, Int.reduceAdd, Int.reduceToNat, Int.reduceSub, Int.reduceNeg, Int.cast_ofNat_Int]
      rw [← e1] at hc
      exact hK _ _ _ _ (ih (q + 1) R2 I2 X2 (by omega) e2 e3 (fun I' X' z4 t1 t2 t3 => hc I' X' z4 t1 t2 (e4.trans t3)))
    by_cases ck : (mv_al m cl).testBit q = true
    · rw [if_pos ck]
      refine rz_blk' [(.ifCond .eq 15, 3, 0, 0), (.aload_n 0, 1, 0, 0), (.aload_n 1, 1, 0, 0), (.iload 4, 2, 0, 0)] (by decide +kernel) (Nat.le_refl _) (Nat.le_refl _) (fun K R hK hR => ?_)
      simp only [↓rx_aload_n0, ↓rx_aload_n1, ↓rx_ifCond_eq, ↓rx_iload, ↓rx_nil, ↓ry_i1, ↓ry_li0s, ↓ry_li0z, ↓ry_lr0s, ↓ry_lr0z, ↓bl_ob, ↓bl_r71, ↓bl_i76, ↓bl_i77, ↓bl_i78, ↓bl_i79, ↓bl_r80, ↓bl_r81, rz_set, rz_nol, rz_clr, List.set_cons_zero, List.set_cons_succ, rz_tr, Nat.reduceAdd, Int.reduceAdd, Int.reduceToNat, Int.reduceSub, Int.reduceNeg, Int.cast_ofNat_Int]
      refine ⟨fun z => absurd z (by decide), fun _ => hK _ _ _ _ ?_⟩
      refine rz_cV (As := [.ref am, .int (nI q)]) (b := a) (S := []) l_Bld_123 (by decide +kernel) rfl bl_at0 rfl (Nat.le_of_ble_eq_true rfl) (Nat.le_refl _) (Nat.le_refl _) (c_Bld_findHead h1 h3 (by omega) hS (hb _ hI)) (fun r G' hr => ?_)
      obtain ⟨rfl, I2, X2, rfl, e1, e2⟩ := hr
      simp only [Option.toList, List.cons_append, List.nil_append]
      have hi2 := hs U.1 q hI (by omega) ck
      by_cases cb : (bh_1 m cl U.1 q).2 = true
      · rw [cb]
        refine rz_blk' [(.ifCond .eq 5, 3, 0, 0), (.iconst 1, 1, 0, 0), (.istore_n 2, 1, 0, 0)] (by decide +kernel) (Nat.le_refl _) (Nat.le_refl _) (fun K R hK hR => ?_)
        simp only [rw_c1, ↓rx_iconst, ↓rx_ifCond_eq, ↓rx_istore_n2, ↓rx_nil, ↓ry_i1, ↓bl_ob, ↓bl_r71, ↓bl_i76, ↓bl_i77, ↓bl_i78, ↓bl_i79, ↓bl_r80, ↓bl_r81, rz_set, rz_nol, rz_clr, List.set_cons_zero, List.set_cons_succ, rz_tr, Nat.reduceAdd, Int.reduceAdd, Int.reduceToNat, Int.reduceSub, Int.reduceNeg, Int.cast_ofNat_Int]
        refine ⟨fun z => absurd z (by decide), fun _ => hK _ _ _ _ ?_⟩
        exact hnext ((bh_1 m cl U.1 q).1, true) I2 X2 (by rw [if_pos ck, cb, Bool.or_true]) e1 hi2 e2
      · have cb : (bh_1 m cl U.1 q).2 = false := by simpa using cb
        rw [cb]
        refine rz_blk' [(.ifCond .eq 5, 3, 0, 0)] (by decide +kernel) (Nat.le_refl _) (Nat.le_refl _) (fun K R hK hR => ?_)
        simp only [↓rx_ifCond_eq, ↓rx_nil, ↓ry_i1, ↓bl_ob, ↓bl_r71, ↓bl_i76, ↓bl_i77, ↓bl_i78, ↓bl_i79, ↓bl_r80, ↓bl_r81, rz_set, rz_nol, rz_clr, List.set_cons_zero, List.set_cons_succ, rz_tr, Nat.reduceAdd, Int.reduceAdd, Int.reduceToNat, Int.reduceSub, Int.reduceNeg, Int.cast_ofNat_Int]
        refine ⟨fun _ => hK _ _ _ _ ?_, fun z => absurd rfl z⟩
        exact hnext ((bh_1 m cl U.1 q).1, U.2) I2 X2 (by rw [if_pos ck, cb, Bool.or_false]) e1 hi2 e2
    · rw [if_neg ck]
      refine rz_blk' [(.ifCond .eq 15, 3, 0, 0)] (by decide +kernel) (Nat.le_refl _) (Nat.le_refl _) (fun K R hK hR => ?_)
      simp only [↓rx_ifCond_eq, ↓rx_nil, ↓ry_i1, ↓bl_ob, ↓bl_r71, ↓bl_i76, ↓bl_i77, ↓bl_i78, ↓bl_i79, ↓bl_r80, ↓bl_r81, rz_set, rz_nol, rz_clr, List.set_cons_zero, List.set_cons_succ, rz_tr, Nat.reduceAdd, Int.reduceAdd, Int.reduceToNat, Int.reduceSub, Int.reduceNeg, Int.cast_ofNat_Int]
      exact ⟨fun _ => hK _ _ _ _ (hnext U I X (by rw [if_neg ck]) hS hI ⟨rfl, rfl, fun _ _ => rfl⟩), fun z => absurd trivial z⟩

set_option maxRecDepth 100000 in
set_option maxHeartbeats 4000000 in
theorem bh_gl (h1 : mc_at' G am a 588 M1 m cl) (h3 : mv_w3 m) (hs : ∀ S q, Inv S → q < 6 → (mv_al m cl).testBit q = true → Inv (bh_1 m cl S q).1) (hb : ∀ S, Inv S → ∀ q, q < 6 → S.1.testBit q = true → (S.2 q).length ≤ 45) :
    ∀ (k t : Nat) (ch : Bool) (S : bh_T) (I : Nat → Int32) (X : Nat → List Nat) (z4 : Option Value), t + k = 200 → bh_st I X S → Inv S →
      (∀ I' X', bh_st I' X' (bh_go m cl k ch S) → Inv (bh_go m cl k ch S) → bh_kp I I' X X' → Q none (mc_put (bo_put G a I' A J X' P) (a + 1) Im Am Jm Xm Pm)) →
      rz_T w (d + 2) 0 0 m_Bld_findHeads 0 0 9 [some (.ref a), some (.ref am), some (.int (rz_b ch)), some (.int (nI t)), z4] [] (mc_put (bo_put G a I A J X P) (a + 1) Im Am Jm Xm Pm) Q := by
  intro k
  induction k with
  | zero =>
    intro t ch S I X z4 hk hS hI hc
    have hret : rz_T w (d + 2) 0 0 m_Bld_findHeads 0 0 70 [some (.ref a), some (.ref am), some (.int (rz_b ch)), some (.int (nI t)), z4] [] (mc_put (bo_put G a I A J X P) (a + 1) Im Am Jm Xm Pm) Q := by
      refine rz_blk' [(.return_, 1, 0, 0)] (by decide +kernel) (Nat.le_refl _) (Nat.le_refl _) (fun K R hK hR => ?_)
      simp only [↓rx_nil, ↓rx_return_, ↓bl_ob, ↓bl_r71, ↓bl_i76, ↓bl_i77, ↓bl_i78, ↓bl_i79, ↓bl_r80, ↓bl_r81, rz_set, rz_nol, rz_clr, List.set_cons_zero, List.set_cons_succ, rz_tr, Nat.reduceAdd, Int.reduceAdd, Int.reduceToNat, Int.reduceSub, Int.reduceNeg, Int.cast_ofNat_Int]
      exact hR _ _ (rz_nb_i (by decide)) (hc I X hS hI ⟨rfl, rfl, fun _ _ => rfl⟩)
    refine rz_blk' [(.iload_n 2, 1, 0, 0), (.ifCond .eq 60, 3, 0, 0), (.iload_n 3, 1, 0, 0), (.sipush 200, 3, 0, 0), (.if_icmp .ge 53, 3, 0, 0)] (by decide +kernel) (Nat.le_refl _) (Nat.le_refl _) (fun K R hK hR => ?_)
    simp only [rw_s200, ↓rx_ifCond_eq, ↓rx_if_icmp_ge, ↓rx_iload_n2, ↓rx_iload_n3, ↓rx_nil, ↓rx_sipush, ↓ry_i1, ↓ry_i2, ↓ry_li0s, ↓ry_li0z, ↓bl_ob, ↓bl_r71, ↓bl_i76, ↓bl_i77, ↓bl_i78, ↓bl_i79, ↓bl_r80, ↓bl_r81, rz_set, rz_nol, rz_clr, List.set_cons_zero, List.set_cons_succ, rz_tr, Nat.reduceAdd, Int.reduceAdd, Int.reduceToNat, Int.reduceSub, Int.reduceNeg, Int.cast_ofNat_Int]
    rw [nI_leI (by omega) (by omega)]
    exact ⟨fun _ => hK _ _ _ _ hret, fun _ => ⟨fun _ => hK _ _ _ _ hret, fun c => by omega⟩⟩
  | succ k ih =>
    intro t ch S I X z4 hk hS hI hc
    simp only [bh_go] at hc
    refine rz_blk' [(.iload_n 2, 1, 0, 0), (.ifCond .eq 60, 3, 0, 0), (.iload_n 3, 1, 0, 0), (.sipush 200, 3, 0, 0), (.if_icmp .ge 53, 3, 0, 0), (.iconst 0, 1, 0, 0), (.istore_n 2, 1, 0, 0)] (by decide +kernel) (Nat.le_refl _) (Nat.le_refl _) (fun K R hK hR => ?_)
    simp only [rw_c0, rw_s200, ↓rx_iconst, ↓rx_ifCond_eq, ↓rx_if_icmp_ge, ↓rx_iload_n2, ↓rx_iload_n3, ↓rx_istore_n2, ↓rx_nil, ↓rx_sipush, ↓ry_i1, ↓ry_i2, ↓ry_li0s, ↓ry_li0z, ↓bl_ob, ↓bl_r71, ↓bl_i76, ↓bl_i77, ↓bl_i78, ↓bl_i79, ↓bl_r80, ↓bl_r81, rz_set, rz_nol, rz_clr, List.set_cons_zero, List.set_cons_succ, rz_tr, Nat.reduceAdd, Int.reduceAdd, Int.reduceToNat, Int.reduceSub, Int.reduceNeg, Int.cast_ofNat_Int]
    rw [rz_b_0, nI_leI (by omega) (by omega)]
    refine ⟨fun c => hK _ _ _ _ ?_, fun c => ⟨fun c2 => by omega, fun c2 => hK _ _ _ _ ?_⟩⟩
    · rw [c] at hc
      simp only [Bool.false_eq_true, if_false] at hc
      refine rz_blk' [(.return_, 1, 0, 0)] (by decide +kernel) (Nat.le_refl _) (Nat.le_refl _) (fun K R hK hR => ?_)
      simp only [↓rx_nil, ↓rx_return_, ↓bl_ob, ↓bl_r71, ↓bl_i76, ↓bl_i77, ↓bl_i78, ↓bl_i79, ↓bl_r80, ↓bl_r81, rz_set, rz_nol, rz_clr, List.set_cons_zero, List.set_cons_succ, rz_tr, Nat.reduceAdd, Int.reduceAdd, Int.reduceToNat, Int.reduceSub, Int.reduceNeg, Int.cast_ofNat_Int]
      exact hR _ _ (rz_nb_i (by decide)) (hc I X hS hI ⟨rfl, rfl, fun _ _ => rfl⟩)
    have c : ch = true := by simpa using c
    rw [c] at hc
    simp only [if_true] at hc
    refine rz_blk' [(.iconst 0, 1, 0, 0), (.istore 4, 2, 0, 0)] (by decide +kernel) (Nat.le_refl _) (Nat.le_refl _) (fun K R hK hR => ?_)
    simp only [rw_c0, ↓rx_iconst, ↓rx_istore, ↓rx_nil, ↓ry_i1, ↓bl_ob, ↓bl_r71, ↓bl_i76, ↓bl_i77, ↓bl_i78, ↓bl_i79, ↓bl_r80, ↓bl_r81, rz_set, rz_nol, rz_clr, List.set_cons_zero, List.set_cons_succ, rz_tr, Nat.reduceAdd, Int.reduceAdd, Int.reduceToNat, Int.reduceSub, Int.reduceNeg, Int.cast_ofNat_Int]
    refine hK _ _ _ _ (bh_sl h1 h3 hs hb m.1 0 (S, false) I X (by omega) hS hI (fun I2 X2 z4' t1 t2 t3 => ?_))
    refine rz_blk' [(.iinc 3 1, 3, 0, 0), (.goto (-58), 3, 0, 0)] (by decide +kernel) (Nat.le_refl _) (Nat.le_refl _) (fun K R hK hR => ?_)
    simp only [rw_c1, ↓rx_goto, ↓rx_iinc, ↓rx_nil, ↓ry_li0s, ↓ry_li0z, ↓bl_ob, ↓bl_r71, ↓bl_i76, ↓bl_i77, ↓bl_i78, ↓bl_i79, ↓bl_r80, ↓bl_r81, nI_add, rz_set, rz_nol, rz_clr, List.set_cons_zero, List.set_cons_succ, rz_tr, Nat.reduceAdd, Int.reduceAdd, Int.reduceToNat, Int.reduceSub, Int.reduceNeg, Int.cast_ofNat_Int]
    exact hK _ _ _ _ (ih (t + 1) _ _ I2 X2 _ (by omega) t1 t2 (fun I' X' u1 u2 u3 => hc I' X' u1 u2 (t3.trans u3)))
end BHS

set_option maxRecDepth 100000 in
set_option maxHeartbeats 4000000 in
/-- findHeads(machine) -/
theorem c_Bld_findHeads {w : rz_w} {d : Nat} {G : rz_G} {a : Nat} {I : Nat → Int32} {A : Nat → Nat → Int32} {J : Nat → Nat → Int64} {X : Nat → List Nat} {P : Nat → Nat} {Im : Nat → Int32} {Am : Nat → Nat → Int32} {Jm : Nat → Nat → Int64} {Xm : Nat → List Nat} {Pm : Nat → Nat} {M1 : mc_S} {m : mv_T} {cl am : Nat} {hd : Nat → List Nat} {Inv : bh_T → Prop} (h1 : mc_at' G am a 588 M1 m cl) (h3 : mv_w3 m) (hs : ∀ S q, Inv S → q < 6 → (mv_al m cl).testBit q = true → Inv (bh_1 m cl S q).1) (hb : ∀ S, Inv S → ∀ q, q < 6 → S.1.testBit q = true → (S.2 q).length ≤ 45) (hX : bl_xo X) (hh : ∀ q, q < 6 → X (3 + q) = hd q) (h0 : Inv (0, hd)) :
    rz_C w (d + 2) 0 0 y_Bld_findHeads m_Bld_findHeads [.ref a, .ref am] (mc_put (bo_put G a I A J X P) (a + 1) Im Am Jm Xm Pm) (fun r G' => r = none ∧ ∃ I' X', G' = (mc_put (bo_put G a I' A J X' P) (a + 1) Im Am Jm Xm Pm) ∧ bh_st I' X' (bh_go m cl 200 true (0, hd)) ∧ Inv (bh_go m cl 200 true (0, hd)) ∧ bh_kp I I' X X') := by
  refine rz_enter' [some (.ref a), some (.ref am), none, none, none] (by decide +kernel) rfl rfl (Nat.le_of_ble_eq_true rfl) rfl ?_
  refine rz_blk' [(.aload_n 0, 1, 0, 0), (.iconst 0, 1, 0, 0), (.putfield 115, 3, 8, 2)] (by decide +kernel) (Nat.le_refl _) (Nat.le_refl _) (fun K R hK hR => ?_)
  simp only [List.length_cons, List.length_nil, Nat.reduceLT, rf_8_2, rw_c0, ↓rx_aload_n0, ↓rx_iconst, ↓rx_nil, ↓rx_putfield, ↓ry_lr0s, ↓ry_lr0z, ↓ry_obu, ↓ry_vr, true_and, ↓bl_ob, ↓bl_r71, ↓bl_i76, ↓bl_i77, ↓bl_i78, ↓bl_i79, ↓bl_r80, ↓bl_r81, bl_u2, rz_set, rz_nol, rz_clr, List.set_cons_zero, List.set_cons_succ, rz_tr, Nat.reduceAdd, Int.reduceAdd, Int.reduceToNat, Int.reduceSub, Int.reduceNeg, Int.cast_ofNat_Int]
  refine hK _ _ _ _ ?_
  refine rz_blk' [(.iconst 1, 1, 0, 0), (.istore_n 2, 1, 0, 0)] (by decide +kernel) (Nat.le_refl _) (Nat.le_refl _) (fun K R hK hR => ?_)
  simp only [rw_c1, ↓rx_iconst, ↓rx_istore_n2, ↓rx_nil, ↓ry_i1, ↓bl_ob, ↓bl_r71, ↓bl_i76, ↓bl_i77, ↓bl_i78, ↓bl_i79, ↓bl_r80, ↓bl_r81, rz_set, rz_nol, rz_clr, List.set_cons_zero, List.set_cons_succ, rz_tr, Nat.reduceAdd, Int.reduceAdd, Int.reduceToNat, Int.reduceSub, Int.reduceNeg, Int.cast_ofNat_Int]
  refine hK _ _ _ _ ?_
  refine rz_blk' [(.iconst 0, 1, 0, 0), (.istore_n 3, 1, 0, 0)] (by decide +kernel) (Nat.le_refl _) (Nat.le_refl _) (fun K R hK hR => ?_)
  simp only [rw_c0, ↓rx_iconst, ↓rx_istore_n3, ↓rx_nil, ↓ry_i1, ↓bl_ob, ↓bl_r71, ↓bl_i76, ↓bl_i77, ↓bl_i78, ↓bl_i79, ↓bl_r80, ↓bl_r81, rz_set, rz_nol, rz_clr, List.set_cons_zero, List.set_cons_succ, rz_tr, Nat.reduceAdd, Int.reduceAdd, Int.reduceToNat, Int.reduceSub, Int.reduceNeg, Int.cast_ofNat_Int]
  refine hK _ _ _ _ (bh_gl h1 h3 hs hb 200 0 true (0, hd) _ X none rfl ⟨pk_us, (by decide : 0 < 64), hh, hX⟩ h0 (fun I' X' u1 u2 u3 => ⟨rfl, I', X', rfl, u1, u2, u3.1.trans (pk_un (by decide)), u3.2⟩))

