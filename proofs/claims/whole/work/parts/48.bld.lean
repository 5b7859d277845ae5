/-! WriterDesk$Builder: equalSet -/
def be_q (T S : bf_T) : Nat → Nat → Bool
  | 0, _ => true
  | k + 1, q => (!T.1.testBit q || decide (S.2 q = T.2 q)) && be_q T S k (q + 1)
def be_eq (T S : bf_T) : Bool := decide (S.1 = T.1) && be_q T S 6 0
/-- the sets of the states -/
def bs_st (A : Nat → Nat → Int32) (X : Nat → List Nat) (TS : List bf_T) : Prop := TS.length ≤ 40 ∧ ∀ i S, TS[i]? = some S → A 3 i = nI S.1 ∧ S.1 < 64 ∧ ∀ q, q < 6 → S.1.testBit q = true → X (15 + (i * 6 + q)) = S.2 q
section BEL
variable {w : rz_w} {d : Nat} {G : rz_G} {a : Nat} {I : Nat → Int32} {A : Nat → Nat → Int32} {J : Nat → Nat → Int64} {X : Nat → List Nat} {P : Nat → Nat} {Im : Nat → Int32} {Am : Nat → Nat → Int32} {Jm : Nat → Nat → Int64} {Xm : Nat → List Nat} {Pm : Nat → Nat} {T : bf_T} {TS : List bf_T} {Q : Option Value → rz_G → Prop}
set_option maxRecDepth 100000 in
set_option maxHeartbeats 4000000 in
theorem be_l (hT : bf_st I X T) (hTS : bs_st A X TS) {st : Nat} {S : bf_T} {x1 : Int32} (hst : TS[st]? = some S)
    (hc : ∀ z4, rz_T w (d + 1) 0 0 m_Bld_equalSet 0 0 89 [some (.ref a), some (.int x1), some (.int (nI st)), some (.int (rz_b (be_eq T S))), z4] [] (mc_put (bo_put G a I A J X P) (a + 1) Im Am Jm Xm Pm) Q) :
    ∀ (k q : Nat) (c : Bool), q + k = 6 → (c = true → S.1 = T.1) → (c && be_q T S k q) = be_eq T S → rz_T w (d + 1) 0 0 m_Bld_equalSet 0 0 29 [some (.ref a), some (.int x1), some (.int (nI st)), some (.int (rz_b c)), some (.int (nI q))] [] (mc_put (bo_put G a I A J X P) (a + 1) Im Am Jm Xm Pm) Q := by
  obtain ⟨s0, s1, s2, s3⟩ := id hT
  obtain ⟨u1, u2, u3⟩ := hTS.2 st S hst
  have h40 := hTS.1
  have hl := (List.getElem?_eq_some_iff.mp hst).1
  intro k
  induction k with
  | zero =>
    intro q c hk hcc he
    simp only [be_q, Bool.and_true] at he
    rw [he]
    refine rz_blk' [(.iload_n 3, 1, 0, 0), (.ifCond .eq 59, 3, 0, 0), (.iload 4, 2, 0, 0), (.bipush 6, 2, 0, 0), (.if_icmp .ge 52, 3, 0, 0)] (by decide +kernel) (Nat.le_refl _) (Nat.le_refl _) (fun K R hK hR => ?_)
    simp only [rw_b6, ↓rx_bipush, ↓rx_ifCond_eq, ↓rx_if_icmp_ge, ↓rx_iload, ↓rx_iload_n3, ↓rx_nil, ↓ry_i1, ↓ry_i2, ↓ry_li0s, ↓ry_li0z, ↓bl_ob, ↓bl_r71, ↓bl_i76, ↓bl_i77, ↓bl_i78, ↓bl_i79, ↓bl_r80, ↓bl_r81, rz_set, rz_nol, rz_clr, List.set_cons_zero, List.set_cons_succ, rz_tr, Nat.reduceAdd, Int.reduceAdd, Int.reduceToNat, Int.reduceSub, Int.reduceNeg, Int.cast_ofNat_Int]
    rw [nI_leI (by omega) (by omega)]
    exact ⟨fun _ => hK _ _ _ _ (hc _), fun _ => ⟨fun _ => hK _ _ _ _ (hc _), fun z => by omega⟩⟩
  | succ k ih =>
    intro q c hk hcc he
    refine rz_blk' [(.iload_n 3, 1, 0, 0), (.ifCond .eq 59, 3, 0, 0), (.iload 4, 2, 0, 0), (.bipush 6, 2, 0, 0), (.if_icmp .ge 52, 3, 0, 0), (.aload_n 0, 1, 0, 0), (.getfield 90, 3, 8, 10), (.iload 4, 2, 0, 0)] (by decide +kernel) (Nat.le_refl _) (Nat.le_refl _) (fun K R hK hR => ?_)
    simp only [rw_b6, ↓rx_aload_n0, ↓rx_bipush, ↓rx_getfield, ↓rx_ifCond_eq, ↓rx_if_icmp_ge, ↓rx_iload, ↓rx_iload_n3, ↓rx_nil, ↓ry_fvs, ↓ry_fvz, ↓ry_i1, ↓ry_i2, ↓ry_li0s, ↓ry_li0z, ↓ry_lr0s, ↓ry_lr0z, ↓ry_obu, ↓ry_r1, ↓bl_ob, ↓bl_r71, ↓bl_i76, ↓bl_i77, ↓bl_i78, ↓bl_i79, ↓bl_r80, ↓bl_r81, s0, rz_set, rz_nol, rz_clr, List.set_cons_zero, List.set_cons_succ, rz_tr, Nat.reduceAdd, Int.reduceAdd, Int.reduceToNat, Int.reduceSub, Int.reduceNeg, Int.cast_ofNat_Int]
    rw [rz_b_0, nI_leI (by omega) (by omega)]
    refine ⟨fun z => hK _ _ _ _ ?_, fun z => ⟨fun z2 => by omega, fun z2 => hK _ _ _ _ ?_⟩⟩
    · rw [z, Bool.false_and] at he; rw [z]; rw [← he] at hc; exact hc _
    have z : c = true := by simpa using z
    have e1 := hcc z
    rw [z, Bool.true_and] at he
    simp only [be_q] at he
    refine rz_cN (As := [.int (nI T.1), .int (nI q)]) (S := []) l_Bld_119 (by decide +kernel) rfl (Nat.le_of_ble_eq_true rfl) (Nat.le_refl _) (Nat.le_refl _) (c_Desk_has (by omega) (by omega)) (fun r G' hr => ?_)
    obtain ⟨rfl, hg⟩ := hr
    have hg := hg.symm
    subst hg
    simp only [Option.toList, List.cons_append, List.nil_append]
    have hnext : ∀ c2 : Bool, c2 = (!T.1.testBit q || decide (S.2 q = T.2 q)) → rz_T w (d + 1) 0 0 m_Bld_equalSet 0 0 82 [some (.ref a), some (.int x1), some (.int (nI st)), some (.int (rz_b c)), some (.int (nI q))] [.int (rz_b c2)] (mc_put (bo_put G a I A J X P) (a + 1) Im Am Jm Xm Pm) Q := by
      intro c2 hc2
      refine rz_blk' [(.istore_n 3, 1, 0, 0)] (by decide +kernel) (Nat.le_refl _) (Nat.le_refl _) (fun K R hK hR => ?_)
      simp only [↓rx_istore_n3, ↓rx_nil, ↓ry_i1, ↓bl_ob, ↓bl_r71, ↓bl_i76, ↓bl_i77, ↓bl_i78, ↓bl_i79, ↓bl_r80, ↓bl_r81, rz_set, rz_nol, rz_clr, List.set_cons_zero, List.set_cons_succ, rz_tr, Nat.reduceAdd, Int.reduceAdd, Int.reduceToNat, Int.reduceSub, Int.reduceNeg, Int.cast_ofNat_Int]
      refine hK _ _ _ _ ?_
      refine rz_blk' [(.iinc 4 1, 3, 0, 0), (.goto (-57), 3, 0, 0)] (by decide +kernel) (Nat.le_refl _) (Nat.le_refl _) (fun K R hK hR => ?_)
      simp only [rw_c1, ↓rx_goto, ↓rx_iinc, ↓rx_nil, ↓ry_li0s, ↓ry_li0z, ↓bl_ob, ↓bl_r71, ↓bl_i76, ↓bl_i77, ↓bl_i78, ↓bl_i79, ↓bl_r80, ↓bl_r81, nI_add, rz_set, rz_nol, rz_clr, List.set_cons_zero, List.set_cons_succ, rz_tr, Nat.reduceAdd, Int.reduceAdd, Int.reduceToNat, Int.reduceSub, Int.reduceNeg, Int.cast_ofNat_Int]
      rw [← hc2] at he
      exact hK _ _ _ _ (ih (q + 1) c2 (by omega) (fun _ => e1) he)
    by_cases ck : T.1.testBit q = true
    · rw [if_pos ck]
      have wn := bl_wiN (G := G) (a := a) (I := I) (A := A) (J := J) (X := X) (P := P) (Im := Im) (Am := Am) (Jm := Jm) (Xm := Xm) (Pm := Pm) (q := q) (by omega) (s3.2.2.2.1 q (by omega))
      rw [s2 q (by omega)] at wn
      have wr := bl_wi (G := G) (a := a) (I := I) (A := A) (J := J) (X := X) (P := P) (Im := Im) (Am := Am) (Jm := Jm) (Xm := Xm) (Pm := Pm) (j := st * 6 + q) (by omega) (s3.2.2.2.2 _ (by omega))
      rw [u3 q (by omega) (by rw [e1]; exact ck)] at wr
      refine rz_blk' [(.ifCond .eq 28, 3, 0, 0), (.aload_n 0, 1, 0, 0), (.getfield 47, 3, 8, 9), (.iload_n 2, 1, 0, 0), (.bipush 6, 2, 0, 0), (.imul, 1, 0, 0), (.iload 4, 2, 0, 0), (.iadd, 1, 0, 0), (.aaload, 1, 0, 0), (.aload_n 0, 1, 0, 0), (.getfield 50, 3, 8, 11), (.iload 4, 2, 0, 0), (.aaload, 1, 0, 0)] (by decide +kernel) (Nat.le_refl _) (Nat.le_refl _) (fun K R hK hR => ?_)
      simp only [Nat.reduceEqDiff, false_or, or_false, or_true, reduceIte, rw_b6, ↓rx_aaload, ↓rx_aload_n0, ↓rx_bipush, ↓rx_getfield, ↓rx_iadd, ↓rx_ifCond_eq, ↓rx_iload, ↓rx_iload_n2, ↓rx_imul, ↓rx_nil, ↓ry_fvs, ↓ry_fvz, ↓ry_i1, ↓ry_i2, ↓ry_li0s, ↓ry_li0z, ↓ry_lr0s, ↓ry_lr0z, ↓ry_obu, ↓ry_r1, ↓ry_ri, true_and, true_or, ↓bl_ob, ↓bl_r71, ↓bl_i76, ↓bl_i77, ↓bl_i78, ↓bl_i79, ↓bl_r80, ↓bl_r81, pk_mul, nI_add, va_rfs, rz_set, rz_nol, rz_clr, List.set_cons_zero, List.set_cons_succ, rz_tr, Nat.reduceAdd, Int.reduceAdd, Int.reduceToNat, Int.reduceSub, Int.reduceNeg, Int.cast_ofNat_Int]
      rw [nI_clamp (by omega), nI_clamp (by omega)]
      refine ⟨fun z => absurd z (by decide), fun _ => ⟨vp_in_nI (by omega) (by decide), vp_in_nI (by omega) (by decide), hK _ _ _ _ ?_⟩⟩
      refine rz_cV (As := [.ref (a + (86 + 4 * q))]) (b := a + (108 + 2 * (st * 6 + q))) (S := []) l_Bld_154 (by decide +kernel) rfl wr.1 rfl (Nat.le_of_ble_eq_true rfl) (Nat.le_refl _) (Nat.le_refl _) (c_Word_isLike wr wn) (fun r G' hr => ?_)
      obtain ⟨rfl, hg⟩ := hr
      have hg := hg.symm
      subst hg
      simp only [Option.toList, List.cons_append, List.nil_append]
      by_cases ce : S.2 q = T.2 q
      · rw [if_pos ce]
        refine rz_blk' [(.ifCond .eq 7, 3, 0, 0), (.iconst 1, 1, 0, 0), (.goto 4, 3, 0, 0)] (by decide +kernel) (Nat.le_refl _) (Nat.le_refl _) (fun K R hK hR => ?_)
        simp only [rw_c1, ↓rx_goto, ↓rx_iconst, ↓rx_ifCond_eq, ↓rx_nil, ↓ry_i1, ↓bl_ob, ↓bl_r71, ↓bl_i76, ↓bl_i77, ↓bl_i78, ↓bl_i79, ↓bl_r80, ↓bl_r81, rz_set, rz_nol, rz_clr, List.set_cons_zero, List.set_cons_succ, rz_tr, Nat.reduceAdd, Int.reduceAdd, Int.reduceToNat, Int.reduceSub, Int.reduceNeg, Int.cast_ofNat_Int]
        exact ⟨fun z => absurd z (by decide), fun _ => hK _ _ _ _ (hnext true (by simp [ce]))⟩
      · rw [if_neg ce]
        refine rz_blk' [(.ifCond .eq 7, 3, 0, 0)] (by decide +kernel) (Nat.le_refl _) (Nat.le_refl _) (fun K R hK hR => ?_)
        simp only [↓rx_ifCond_eq, ↓rx_nil, ↓ry_i1, ↓bl_ob, ↓bl_r71, ↓bl_i76, ↓bl_i77, ↓bl_i78, ↓bl_i79, ↓bl_r80, ↓bl_r81, rz_set, rz_nol, rz_clr, List.set_cons_zero, List.set_cons_succ, rz_tr, Nat.reduceAdd, Int.reduceAdd, Int.reduceToNat, Int.reduceSub, Int.reduceNeg, Int.cast_ofNat_Int]
        refine ⟨fun _ => hK _ _ _ _ ?_, fun z => absurd trivial z⟩
        refine rz_blk' [(.iconst 0, 1, 0, 0)] (by decide +kernel) (Nat.le_refl _) (Nat.le_refl _) (fun K R hK hR => ?_)
        simp only [rw_c0, ↓rx_iconst, ↓rx_nil, ↓bl_ob, ↓bl_r71, ↓bl_i76, ↓bl_i77, ↓bl_i78, ↓bl_i79, ↓bl_r80, ↓bl_r81, rz_set, rz_nol, rz_clr, List.set_cons_zero, List.set_cons_succ, rz_tr, Nat.reduceAdd, Int.reduceAdd, Int.reduceToNat, Int.reduceSub, Int.reduceNeg, Int.cast_ofNat_Int]
        exact hK _ _ _ _ (hnext false (by simp [ce, ck]))
    · rw [if_neg ck]
      refine rz_blk' [(.ifCond .eq 28, 3, 0, 0)] (by decide +kernel) (Nat.le_refl _) (Nat.le_refl _) (fun K R hK hR => ?_)
      simp only [↓rx_ifCond_eq, ↓rx_nil, ↓ry_i1, ↓bl_ob, ↓bl_r71, ↓bl_i76, ↓bl_i77, ↓bl_i78, ↓bl_i79, ↓bl_r80, ↓bl_r81, rz_set, rz_nol, rz_clr, List.set_cons_zero, List.set_cons_succ, rz_tr, Nat.reduceAdd, Int.reduceAdd, Int.reduceToNat, Int.reduceSub, Int.reduceNeg, Int.cast_ofNat_Int]
      refine ⟨fun _ => hK _ _ _ _ ?_, fun z => absurd trivial z⟩
      refine rz_blk' [(.iconst 1, 1, 0, 0), (.goto 4, 3, 0, 0)] (by decide +kernel) (Nat.le_refl _) (Nat.le_refl _) (fun K R hK hR => ?_)
      simp only [rw_c1, ↓rx_goto, ↓rx_iconst, ↓rx_nil, ↓bl_ob, ↓bl_r71, ↓bl_i76, ↓bl_i77, ↓bl_i78, ↓bl_i79, ↓bl_r80, ↓bl_r81, rz_set, rz_nol, rz_clr, List.set_cons_zero, List.set_cons_succ, rz_tr, Nat.reduceAdd, Int.reduceAdd, Int.reduceToNat, Int.reduceSub, Int.reduceNeg, Int.cast_ofNat_Int]
      exact hK _ _ _ _ (hnext true (by simp [ck]))

set_option maxRecDepth 100000 in
set_option maxHeartbeats 4000000 in
theorem be_o (hT : bf_st I X T) (hTS : bs_st A X TS) (hQ : Q (some (.int (ps_fo (TS.findIdx? (be_eq T))))) (mc_put (bo_put G a I A J X P) (a + 1) Im Am Jm Xm Pm)) :
    ∀ (k st : Nat) (z3 z4 : Option Value), st + k = TS.length → (∀ i S, i < st → TS[i]? = some S → be_eq T S = false) → rz_T w (d + 1) 0 0 m_Bld_equalSet 0 0 2 [some (.ref a), some (.int (nI TS.length)), some (.int (nI st)), z3, z4] [] (mc_put (bo_put G a I A J X P) (a + 1) Im Am Jm Xm Pm) Q := by
  have h40 := hTS.1
  obtain ⟨s0, s1, s2, s3⟩ := id hT
  intro k
  induction k with
  | zero =>
    intro st z3 z4 hk hno
    refine rz_blk' [(.iload_n 2, 1, 0, 0), (.iload_n 1, 1, 0, 0), (.if_icmp .ge 97, 3, 0, 0)] (by decide +kernel) (Nat.le_refl _) (Nat.le_refl _) (fun K R hK hR => ?_)
    simp only [↓rx_if_icmp_ge, ↓rx_iload_n1, ↓rx_iload_n2, ↓rx_nil, ↓ry_i2, ↓ry_li0s, ↓ry_li0z, ↓bl_ob, ↓bl_r71, ↓bl_i76, ↓bl_i77, ↓bl_i78, ↓bl_i79, ↓bl_r80, ↓bl_r81, rz_set, rz_nol, rz_clr, List.set_cons_zero, List.set_cons_succ, rz_tr, Nat.reduceAdd, Int.reduceAdd, Int.reduceToNat, Int.reduceSub, Int.reduceNeg, Int.cast_ofNat_Int]
    rw [nI_leI (by omega) (by omega)]
    refine ⟨fun c => hK _ _ _ _ ?_, fun c => by omega⟩
    have hn : TS.findIdx? (be_eq T) = none := by
      rw [List.findIdx?_eq_none_iff]
      intro S hS
      obtain ⟨i, hi⟩ := List.mem_iff_getElem?.mp hS
      exact hno i S (by have := (List.getElem?_eq_some_iff.mp hi).1; omega) hi
    rw [hn] at hQ
    refine rz_blk' [(.iconst (-1), 1, 0, 0), (.ireturn, 1, 0, 0)] (by decide +kernel) (Nat.le_refl _) (Nat.le_refl _) (fun K R hK hR => ?_)
    simp only [rw_cm1, ↓rx_iconst, ↓rx_ireturn, ↓rx_nil, ↓bl_ob, ↓bl_r71, ↓bl_i76, ↓bl_i77, ↓bl_i78, ↓bl_i79, ↓bl_r80, ↓bl_r81, rz_set, rz_nol, rz_clr, List.set_cons_zero, List.set_cons_succ, rz_tr, Nat.reduceAdd, Int.reduceAdd, Int.reduceToNat, Int.reduceSub, Int.reduceNeg, Int.cast_ofNat_Int]
    exact hR _ _ (rz_nb_i (by decide)) hQ
  | succ k ih =>
    intro st z3 z4 hk hno
    obtain ⟨S, hst⟩ : ∃ S, TS[st]? = some S := ⟨_, List.getElem?_eq_getElem (by omega)⟩
    obtain ⟨u1, u2, u3⟩ := hTS.2 st S hst
    have hgo : ∀ c : Bool, c = decide (S.1 = T.1) → rz_T w (d + 1) 0 0 m_Bld_equalSet 0 0 25 [some (.ref a), some (.int (nI TS.length)), some (.int (nI st)), z3, z4] [.int (rz_b c)] (mc_put (bo_put G a I A J X P) (a + 1) Im Am Jm Xm Pm) Q := by
      intro c hc
      refine rz_blk' [(.istore_n 3, 1, 0, 0)] (by decide +kernel) (Nat.le_refl _) (Nat.le_refl _) (fun K R hK hR => ?_)
      simp only [↓rx_istore_n3, ↓rx_nil, ↓ry_i1, ↓bl_ob, ↓bl_r71, ↓bl_i76, ↓bl_i77, ↓bl_i78, ↓bl_i79, ↓bl_r80, ↓bl_r81, rz_set, rz_nol, rz_clr, List.set_cons_zero, List.set_cons_succ, rz_tr, Nat.reduceAdd, Int.reduceAdd, Int.reduceToNat, Int.reduceSub, Int.reduceNeg, Int.cast_ofNat_Int]
      refine hK _ _ _ _ ?_
      refine rz_blk' [(.iconst 0, 1, 0, 0), (.istore 4, 2, 0, 0)] (by decide +kernel) (Nat.le_refl _) (Nat.le_refl _) (fun K R hK hR => ?_)
      simp only [rw_c0, ↓rx_iconst, ↓rx_istore, ↓rx_nil, ↓ry_i1, ↓bl_ob, ↓bl_r71, ↓bl_i76, ↓bl_i77, ↓bl_i78, ↓bl_i79, ↓bl_r80, ↓bl_r81, rz_set, rz_nol, rz_clr, List.set_cons_zero, List.set_cons_succ, rz_tr, Nat.reduceAdd, Int.reduceAdd, Int.reduceToNat, Int.reduceSub, Int.reduceNeg, Int.cast_ofNat_Int]
      refine hK _ _ _ _ (be_l hT hTS hst (fun z4' => ?_) 6 0 c rfl (fun z => by rw [hc] at z; simpa using z) (by rw [hc]; rfl))
      by_cases ce : be_eq T S = true
      · rw [ce]
        refine rz_blk' [(.iload_n 3, 1, 0, 0), (.ifCond .eq 5, 3, 0, 0), (.iload_n 2, 1, 0, 0), (.ireturn, 1, 0, 0)] (by decide +kernel) (Nat.le_refl _) (Nat.le_refl _) (fun K R hK hR => ?_)
        simp only [↓rx_ifCond_eq, ↓rx_iload_n2, ↓rx_iload_n3, ↓rx_ireturn, ↓rx_nil, ↓ry_i1, ↓ry_li0s, ↓ry_li0z, ↓bl_ob, ↓bl_r71, ↓bl_i76, ↓bl_i77, ↓bl_i78, ↓bl_i79, ↓bl_r80, ↓bl_r81, rz_set, rz_nol, rz_clr, List.set_cons_zero, List.set_cons_succ, rz_tr, Nat.reduceAdd, Int.reduceAdd, Int.reduceToNat, Int.reduceSub, Int.reduceNeg, Int.cast_ofNat_Int]
        refine ⟨fun z => absurd z (by decide), fun _ => hR _ _ (rz_nb_i (by decide)) ?_⟩
        have hf : TS.findIdx? (be_eq T) = some st := by
          rw [List.findIdx?_eq_some_iff_getElem]
          obtain ⟨hl, hg⟩ := List.getElem?_eq_some_iff.mp hst
          refine ⟨hl, by rw [hg]; exact ce, fun j hj => ?_⟩
          have := hno j TS[j] hj (List.getElem?_eq_getElem (by omega))
          rw [this]; simp
        rw [hf] at hQ
        exact hQ
      · have ce : be_eq T S = false := by simpa using ce
        rw [ce]
        refine rz_blk' [(.iload_n 3, 1, 0, 0), (.ifCond .eq 5, 3, 0, 0)] (by decide +kernel) (Nat.le_refl _) (Nat.le_refl _) (fun K R hK hR => ?_)
        simp only [↓rx_ifCond_eq, ↓rx_iload_n3, ↓rx_nil, ↓ry_i1, ↓ry_li0s, ↓ry_li0z, ↓bl_ob, ↓bl_r71, ↓bl_i76, ↓bl_i77, ↓bl_i78, ↓bl_i79, ↓bl_r80, ↓bl_r81, rz_set, rz_nol, rz_clr, List.set_cons_zero, List.set_cons_succ, rz_tr, Nat.reduceAdd, Int.reduceAdd, Int.reduceToNat, Int.reduceSub, Int.reduceNeg, Int.cast_ofNat_Int]
        refine ⟨fun _ => hK _ _ _ _ ?_, fun z => absurd rfl z⟩
        refine rz_blk' [(.iinc 2 1, 3, 0, 0), (.goto (-96), 3, 0, 0)] (by decide +kernel) (Nat.le_refl _) (Nat.le_refl _) (fun K R hK hR => ?_)
        simp only [rw_c1, ↓rx_goto, ↓rx_iinc, ↓rx_nil, ↓ry_li0s, ↓ry_li0z, ↓bl_ob, ↓bl_r71, ↓bl_i76, ↓bl_i77, ↓bl_i78, ↓bl_i79, ↓bl_r80, ↓bl_r81, nI_add, rz_set, rz_nol, rz_clr, List.set_cons_zero, List.set_cons_succ, rz_tr, Nat.reduceAdd, Int.reduceAdd, Int.reduceToNat, Int.reduceSub, Int.reduceNeg, Int.cast_ofNat_Int]
        refine hK _ _ _ _ (ih (st + 1) _ _ (by omega) (fun i S' hi hS' => ?_))
        by_cases ci : i = st
        · subst ci; rw [hst] at hS'; cases hS'; exact ce
        · exact hno i S' (by omega) hS'
    refine rz_blk' [(.iload_n 2, 1, 0, 0), (.iload_n 1, 1, 0, 0), (.if_icmp .ge 97, 3, 0, 0), (.aload_n 0, 1, 0, 0), (.getfield 44, 3, 8, 8), (.iload_n 2, 1, 0, 0), (.iaload, 1, 0, 0), (.aload_n 0, 1, 0, 0), (.getfield 90, 3, 8, 10), (.if_icmp .ne 7, 3, 0, 0), (.iconst 1, 1, 0, 0), (.goto 4, 3, 0, 0)] (by decide +kernel) (Nat.le_refl _) (Nat.le_refl _) (fun K R hK hR => ?_)
    simp only [rw_c1, ↓rx_aload_n0, ↓rx_getfield, ↓rx_goto, ↓rx_iaload, ↓rx_iconst, ↓rx_if_icmp_ge, ↓rx_if_icmp_ne, ↓rx_iload_n1, ↓rx_iload_n2, ↓rx_nil, ↓ry_fvs, ↓ry_fvz, ↓ry_i2, ↓ry_iau, ↓ry_li0s, ↓ry_li0z, ↓ry_lr0s, ↓ry_lr0z, ↓ry_obu, ↓ry_r1, ↓ry_ri, true_and, ↓bl_ob, ↓bl_r71, ↓bl_i76, ↓bl_i77, ↓bl_i78, ↓bl_i79, ↓bl_r80, ↓bl_r81, s0, rz_set, rz_nol, rz_clr, List.set_cons_zero, List.set_cons_succ, rz_tr, Nat.reduceAdd, Int.reduceAdd, Int.reduceToNat, Int.reduceSub, Int.reduceNeg, Int.cast_ofNat_Int]
    rw [nI_leI (by omega) (by omega), nI_clamp (by omega), u1, nI_eq (by omega) (by omega)]
    refine ⟨fun c => by omega, fun c => ⟨vp_in_nI (by omega) (by decide), fun c2 => hK _ _ _ _ ?_, fun c2 => hK _ _ _ _ (hgo true (by simp [c2]))⟩⟩
    refine rz_blk' [(.iconst 0, 1, 0, 0)] (by decide +kernel) (Nat.le_refl _) (Nat.le_refl _) (fun K R hK hR => ?_)
    simp only [rw_c0, ↓rx_iconst, ↓rx_nil, ↓bl_ob, ↓bl_r71, ↓bl_i76, ↓bl_i77, ↓bl_i78, ↓bl_i79, ↓bl_r80, ↓bl_r81, rz_set, rz_nol, rz_clr, List.set_cons_zero, List.set_cons_succ, rz_tr, Nat.reduceAdd, Int.reduceAdd, Int.reduceToNat, Int.reduceSub, Int.reduceNeg, Int.cast_ofNat_Int]
    exact hK _ _ _ _ (hgo false (by simp [c2]))
end BEL

set_option maxRecDepth 100000 in
set_option maxHeartbeats 4000000 in
/-- equalSet(states) -/
theorem c_Bld_equalSet {w : rz_w} {d : Nat} {G : rz_G} {a : Nat} {I : Nat → Int32} {A : Nat → Nat → Int32} {J : Nat → Nat → Int64} {X : Nat → List Nat} {P : Nat → Nat} {Im : Nat → Int32} {Am : Nat → Nat → Int32} {Jm : Nat → Nat → Int64} {Xm : Nat → List Nat} {Pm : Nat → Nat} {T : bf_T} {TS : List bf_T} (hT : bf_st I X T) (hTS : bs_st A X TS) : rz_C w (d + 1) 0 0 y_Bld_equalSet m_Bld_equalSet [.ref a, .int (nI TS.length)] (mc_put (bo_put G a I A J X P) (a + 1) Im Am Jm Xm Pm) (fun r G' => r = some (.int (ps_fo (TS.findIdx? (be_eq T)))) ∧ G' = (mc_put (bo_put G a I A J X P) (a + 1) Im Am Jm Xm Pm)) := by
  refine rz_enter' [some (.ref a), some (.int (nI TS.length)), none, none, none] (by decide +kernel) rfl rfl (Nat.le_of_ble_eq_true rfl) rfl ?_
  refine rz_blk' [(.iconst 0, 1, 0, 0), (.istore_n 2, 1, 0, 0)] (by decide +kernel) (Nat.le_refl _) (Nat.le_refl _) (fun K R hK hR => ?_)
  simp only [rw_c0, ↓rx_iconst, ↓rx_istore_n2, ↓rx_nil, ↓ry_i1, ↓bl_ob, ↓bl_r71, ↓bl_i76, ↓bl_i77, ↓bl_i78, ↓bl_i79, ↓bl_r80, ↓bl_r81, rz_set, rz_nol, rz_clr, List.set_cons_zero, List.set_cons_succ, rz_tr, Nat.reduceAdd, Int.reduceAdd, Int.reduceToNat, Int.reduceSub, Int.reduceNeg, Int.cast_ofNat_Int]
  exact hK _ _ _ _ (be_o hT hTS ⟨rfl, rfl⟩ TS.length 0 none none (by omega) (fun i S hi => by omega))

