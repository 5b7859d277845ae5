/-! WriterDesk$Builder: build, the loop -/
/-- the sets, the rests as they lie, the places done: target and what is written -/
abbrev bb_T : Type := List bf_T × (Nat → List Nat) × List (Option (Nat × List Nat))
def bb_nx (em : mv_T) (ec : Nat) (U : bb_T) : bf_T := bg_go em ec (U.2.2.length % 3) (U.1.getD (U.2.2.length / 3) (0, fun _ => [])) U.2.1
def bb_1 (em : mv_T) (ec : Nat) (kd : Nat → Nat) (U : bb_T) : Option bb_T :=
  if (bc_ct (bb_nx em ec U)).1 = 0 then some (U.1, (bc_ct (bb_nx em ec U)).2, U.2.2 ++ [none])
  else match U.1.findIdx? (be_eq (bc_ct (bb_nx em ec U))) with
    | some t => some (U.1, (bc_ct (bb_nx em ec U)).2, U.2.2 ++ [some (t, (bc_ld (bb_nx em ec U)).getD [])])
    | none => match U.1.findIdx? (bp_al em ec kd (bc_ct (bb_nx em ec U))) with
      | some t => some (U.1, (bc_ct (bb_nx em ec U)).2, U.2.2 ++ [some (t, (bc_ld (bb_nx em ec U)).getD [])])
      | none => if U.1.length < 40 then some (U.1 ++ [bc_ct (bb_nx em ec U)], (bc_ct (bb_nx em ec U)).2, U.2.2 ++ [some (U.1.length, (bc_ld (bb_nx em ec U)).getD [])]) else none
def bb_go (em : mv_T) (ec : Nat) (kd : Nat → Nat) : Nat → bb_T → Option bb_T
  | 0, U => some U
  | k + 1, U => if U.2.2.length < 3 * U.1.length then (bb_1 em ec kd U).bind (bb_go em ec kd k) else some U
def bb_t : Option (Option (Nat × List Nat)) → Int32
  | some (some (t, _)) => nI t
  | _ => -1
def bb_w : Option (Option (Nat × List Nat)) → List Nat
  | some (some (_, h)) => h
  | _ => []
/-- the new machine as far as it is made -/
def bb_sm (em : mv_T) (ec : Nat) (op : List Nat) (U : bb_T) (Is : Nat → Int32) (As : Nat → Nat → Int32) (Xs : Nat → List Nat) : Prop :=
  Is 0 = nI U.1.length ∧ sm_xo Xs ∧ Xs 0 = op ∧ U.2.2.length ≤ 3 * U.1.length ∧ (∀ i, i < 3 * U.1.length → As 0 i = bb_t U.2.2[i]? ∧ Xs (1 + i) = bb_w U.2.2[i]?) ∧ ∀ i S, U.1[i]? = some S → As 1 i = rz_b (ad_fw em ec S).isSome ∧ Xs (121 + i) = (ad_fw em ec S).getD []
def bb_bl (a : Nat) (P : Nat → Nat) (b : Bool) (kd : Nat → Nat) (af : Nat → Nat → Nat) (U : bb_T) (A : Nat → Nat → Int32) (X : Nat → List Nat) : Prop :=
  bs_st A X U.1 ∧ bl_xo X ∧ (∀ q, q < 6 → X (9 + q) = U.2.1 q) ∧ bk_st a A P b kd af
theorem hp_m1 : ∀ t, t < 200 → ¬ nI t = -1 := by decide +kernel
theorem hp_d3 : ∀ p, p < 120 → nI p / nI 3 = nI (p / 3) ∧ nI p - nI p / nI 3 * nI 3 = nI (p % 3) := by decide +kernel
theorem bk_keep {a : Nat} {A A' : Nat → Nat → Int32} {P : Nat → Nat} {b : Bool} {kd : Nat → Nat} {af : Nat → Nat → Nat} (h : bk_st a A P b kd af) (hA : ∀ k, k ≠ 3 → A' k = A k) : bk_st a A' P b kd af := by
  obtain ⟨h1, h2, h3, h4⟩ := h
  refine ⟨h1, h2, fun s hs => ?_, fun s l hs hl => ?_⟩
  · rw [hA _ (by cases b <;> decide)]; exact h3 s hs
  · rw [hA 0 (by decide)]; exact h4 s l hs hl
theorem bc_lk_any {T : bf_T} : ∀ (k q : Nat) (acc : Option (List Nat)) (p : Nat), q ≤ p → p < q + k → T.1.testBit p = true → (bc_lk T k q acc).isSome = true := by
  intro k
  induction k with
  | zero => intro q acc p h1 h2; omega
  | succ k ih =>
    intro q acc p h1 h2 hb
    simp only [bc_lk]
    by_cases c : p = q
    · subst c
      rw [if_pos hb]
      cases acc with
      | none =>
        obtain ⟨g, hg⟩ := bc_lk_some (T := T) k (p + 1) (T.2 p)
        have : bh_mg none (T.2 p) = some (T.2 p) := rfl
        rw [this, hg]; rfl
      | some h =>
        obtain ⟨g, hg⟩ := bc_lk_some (T := T) k (p + 1) (h.take (wd_lcp h (T.2 p)))
        have : bh_mg (some h) (T.2 p) = some (h.take (wd_lcp h (T.2 p))) := rfl
        rw [this, hg]; rfl
    · exact ih _ _ p (by omega) (by omega) hb
theorem bc_ct1 {T : bf_T} : (bc_ct T).1 = T.1 := by
  simp only [bc_ct]; cases bc_ld T <;> rfl
theorem bc_ld_some {T : bf_T} (h64 : T.1 < 64) (h0 : ¬ T.1 = 0) : ∃ h, bc_ld T = some h := by
  have : ∃ p, T.1.testBit p = true := Nat.exists_testBit_of_ne_zero h0
  obtain ⟨p, hp⟩ := this
  have p6 : p < 6 := by
    refine Decidable.byContradiction fun c => ?_
    have := Nat.testBit_lt_two_pow (i := p) (x := T.1) (Nat.lt_of_lt_of_le h64 (Nat.pow_le_pow_right (n := 2) (by decide) (show 6 ≤ p by omega)))
    rw [hp] at this; cases this
  exact Option.isSome_iff_exists.mp (bc_lk_any 6 0 none p (by omega) (by omega) hp)

section BBL
variable {w : rz_w} {d : Nat} {G : rz_G} {a as ap : Nat} {J : Nat → Nat → Int64} {P : Nat → Nat} {Im : Nat → Int32} {Am : Nat → Nat → Int32} {Jm : Nat → Nat → Int64} {Xm : Nat → List Nat} {Pm : Nat → Nat} {Js : Nat → Nat → Int64} {Ps : Nat → Nat} {Jp : Nat → Nat → Int64} {em : mv_T} {ec : Nat} {b : Bool} {kd : Nat → Nat} {af : Nat → Nat → Nat} {op : List Nat} {Q : Option Value → rz_G → Prop} {R0 : bf_T → Prop} {Ok : Nat → ps_nd → Prop} {am : Nat}
set_option maxRecDepth 100000 in
set_option maxHeartbeats 4000000 in
theorem bb_l (hm : mv_is Im Am Xm em ec) (hs : mv_set Im Am em ec) (has : as + 327 ≤ a ∨ a + 588 ≤ as) (hap : ap + 304 ≤ a ∨ a + 588 ≤ ap) (hsp : as + 327 ≤ ap ∨ ap + 304 ≤ as)
    (hR1 : ∀ S l nr, R0 S → l < 3 → R0 (bc_ct (bg_go em ec l S nr))) (hRf : ∀ S, R0 S → ∀ q, q < 6 → S.1.testBit q = true → (S.2 q).length ≤ 126) (hw : ∀ e, e < em.2.1.length → (mv_e em e).2.2.2.length ≤ 48) (hwf : ∀ q, q < 6 → (ps_fin em q).length ≤ 48)
    (hOk : ∀ k n, k < 72 → Ok k n → ∀ l, l < 3 → ps_sh em em ec ec l n ∧ ∀ n' ∈ ps_nx em em ec ec l n, Ok (k + 1) n') (hO0 : ∀ S T, R0 S → R0 T → ∀ n ∈ bp_st S T, Ok 0 n) :
    ∀ (k : Nat) (U : bb_T) (I : Nat → Int32) (A : Nat → Nat → Int32) (X : Nat → List Nat) (Is : Nat → Int32) (As : Nat → Nat → Int32) (Xs : Nat → List Nat) (Ip : Nat → Int32) (Ap : Nat → Nat → Int32) (Xp : Nat → List Nat) (Pp : Nat → Nat) (z5 : Option Value), U.2.2.length + k = 120 → bb_bl a P b kd af U A X → bb_sm em ec op U Is As Xs → ps_xo Xp → (∀ S ∈ U.1, R0 S) →
      (∀ U' I A X Is As Xs Ip Ap Xp Pp L, bb_go em ec kd k U = some U' → bb_bl a P b kd af U' A X → bb_sm em ec op U' Is As Xs → ps_xo Xp → rz_T w (d + 6) 0 0 m_Bld_build 0 0 194 L [] (mc_put (bo_put (sm_put (ps_put G ap Ip Ap Jp Xp Pp) as Is As Js Xs Ps) a I A J X P) (a + 1) Im Am Jm Xm Pm) Q) →
      (∀ I A X Is As Xs Ip Ap Xp Pp, bb_go em ec kd k U = none → bl_xo X → bk_st a A P b kd af → sm_xo Xs → ps_xo Xp → Q (some (.int 0)) (mc_put (bo_put (sm_put (ps_put G ap Ip Ap Jp Xp Pp) as Is As Js Xs Ps) a I A J X P) (a + 1) Im Am Jm Xm Pm)) →
      rz_T w (d + 6) 0 0 m_Bld_build 0 0 77 [some (.ref a), some (.ref am), some (.ref as), some (.ref ap), some (.int (nI U.2.2.length)), z5] [] (mc_put (bo_put (sm_put (ps_put G ap Ip Ap Jp Xp Pp) as Is As Js Xs Ps) a I A J X P) (a + 1) Im Am Jm Xm Pm) Q := by
  intro k
  have hso : ∀ I A X Is As Xs Ip Ap Xp Pp, (mc_put (bo_put (sm_put (ps_put G ap Ip Ap Jp Xp Pp) as Is As Js Xs Ps) a I A J X P) (a + 1) Im Am Jm Xm Pm) as = some (.inr (7, sm_fs as Is Ps)) := fun I A X Is As Xs Ip Ap Xp Pp => by rw [bl_out (by omega)]; exact sm_at0
  have ht1 : ∀ I A X Is As Xs Ip Ap Xp Pp, (mc_put (bo_put (sm_put (ps_put G ap Ip Ap Jp Xp Pp) as Is As Js Xs Ps) a I A J X P) (a + 1) Im Am Jm Xm Pm) (as + 1) = some (.inl (0, 120, .inl (As 0))) := fun I A X Is As Xs Ip Ap Xp Pp => by rw [bl_out (by omega)]; exact sm_at (o := 1) (by decide)
  induction k with
  | zero =>
    intro U I A X Is As Xs Ip Ap Xp Pp z5 hk hB hM hp hRS hc hf
    have h40 := hB.1.1
    have i0 := hM.1
    have ho := hM.2.2.2.1
    refine rz_blk' [(.iload 4, 2, 0, 0), (.aload_n 2, 1, 0, 0), (.getfield 56, 3, 7, 0), (.iconst 3, 1, 0, 0), (.imul, 1, 0, 0), (.if_icmp .ge 109, 3, 0, 0)] (by decide +kernel) (Nat.le_refl _) (Nat.le_refl _) (fun K R hK hR => ?_)
    simp only [rw_c3, ↓rx_aload_n2, ↓rx_getfield, ↓rx_iconst, ↓rx_if_icmp_ge, ↓rx_iload, ↓rx_imul, ↓rx_nil, ↓ry_fvs, ↓ry_fvz, ↓ry_i2, ↓ry_li0s, ↓ry_li0z, ↓ry_lr0s, ↓ry_lr0z, ↓ry_obu, ↓ry_r1, ↓bl_ob, ↓bl_r71, ↓bl_i76, ↓bl_i77, ↓bl_i78, ↓bl_i79, ↓bl_r80, ↓bl_r81, ↓mc_ob, ↓mc_i1, ↓mc_n1, ↓mc_i2, ↓mc_n2, ↓mc_i3, ↓mc_n3, ↓mc_r4, ↓mc_r7, ↓mc_i8, ↓mc_n8, ↓mc_i9, ↓mc_n9, ↓sm_ob, ↓sm_i1, ↓sm_n1, ↓sm_r2, ↓sm_i3, ↓sm_n3, ↓sm_r4, ↓rh_ob (hso _ _ _ _ _ _ _ _ _ _), i0, pk_mul, rz_set, rz_nol, rz_clr, List.set_cons_zero, List.set_cons_succ, rz_tr, Nat.reduceAdd, Int.reduceAdd, Int.reduceToNat, Int.reduceSub, Int.reduceNeg, Int.cast_ofNat_Int]
    rw [nI_leI (by omega) (by omega)]
    exact ⟨fun c => hK _ _ _ _ (hc U I A X Is As Xs Ip Ap Xp Pp _ rfl hB hM hp), fun c => by omega⟩
  | succ k ih =>
    intro U I A X Is As Xs Ip Ap Xp Pp z5 hk hB hM hp hRS hc hf
    have h40 := hB.1.1
    have i0 := hM.1
    have ho := hM.2.2.2.1
    by_cases cu : U.2.2.length < 3 * U.1.length
    rotate_left
    · simp only [bb_go, if_neg cu] at hc
      refine rz_blk' [(.iload 4, 2, 0, 0), (.aload_n 2, 1, 0, 0), (.getfield 56, 3, 7, 0), (.iconst 3, 1, 0, 0), (.imul, 1, 0, 0), (.if_icmp .ge 109, 3, 0, 0)] (by decide +kernel) (Nat.le_refl _) (Nat.le_refl _) (fun K R hK hR => ?_)
      simp only [rw_c3, ↓rx_aload_n2, ↓rx_getfield, ↓rx_iconst, ↓rx_if_icmp_ge, ↓rx_iload, ↓rx_imul, ↓rx_nil, ↓ry_fvs, ↓ry_fvz, ↓ry_i2, ↓ry_li0s, ↓ry_li0z, ↓ry_lr0s, ↓ry_lr0z, ↓ry_obu, ↓ry_r1, ↓bl_ob, ↓bl_r71, ↓bl_i76, ↓bl_i77, ↓bl_i78, ↓bl_i79, ↓bl_r80, ↓bl_r81, ↓mc_ob, ↓mc_i1, ↓mc_n1, ↓mc_i2, ↓mc_n2, ↓mc_i3, ↓mc_n3, ↓mc_r4, ↓mc_r7, ↓mc_i8, ↓mc_n8, ↓mc_i9, ↓mc_n9, ↓sm_ob, ↓sm_i1, ↓sm_n1, ↓sm_r2, ↓sm_i3, ↓sm_n3, ↓sm_r4, ↓rh_ob (hso _ _ _ _ _ _ _ _ _ _), i0, pk_mul, rz_set, rz_nol, rz_clr, List.set_cons_zero, List.set_cons_succ, rz_tr, Nat.reduceAdd, Int.reduceAdd, Int.reduceToNat, Int.reduceSub, Int.reduceNeg, Int.cast_ofNat_Int]
      rw [nI_leI (by omega) (by omega)]
      exact ⟨fun c => hK _ _ _ _ (hc U I A X Is As Xs Ip Ap Xp Pp _ rfl hB hM hp), fun c => by omega⟩
    simp only [bb_go, if_pos cu] at hc hf
    obtain ⟨d1, d2⟩ := hp_d3 U.2.2.length (by omega)
    obtain ⟨S, hS⟩ : ∃ S, U.1[U.2.2.length / 3]? = some S := ⟨_, List.getElem?_eq_getElem (by omega)⟩
    have hSR := hRS S (List.mem_of_getElem? hS)
    obtain ⟨g1, g2, g3⟩ := hB.1.2 _ S hS
    refine rz_blk' [(.iload 4, 2, 0, 0), (.aload_n 2, 1, 0, 0), (.getfield 56, 3, 7, 0), (.iconst 3, 1, 0, 0), (.imul, 1, 0, 0), (.if_icmp .ge 109, 3, 0, 0), (.iload 4, 2, 0, 0), (.aload_n 2, 1, 0, 0), (.getfield 97, 3, 7, 1), (.arraylength, 1, 0, 0), (.if_icmp .ge 99, 3, 0, 0), (.aload_n 0, 1, 0, 0), (.iload 4, 2, 0, 0), (.iconst 3, 1, 0, 0), (.idiv, 1, 0, 0), (.iload 4, 2, 0, 0), (.iconst 3, 1, 0, 0), (.irem, 1, 0, 0)] (by decide +kernel) (Nat.le_refl _) (Nat.le_refl _) (fun K R hK hR => ?_)
    simp only [Nat.reduceLT, rw_c3, ↓rx_aload_n0, ↓rx_aload_n2, ↓rx_arraylength, ↓rx_getfield, ↓rx_iconst, ↓rx_idiv, ↓rx_if_icmp_ge, ↓rx_iload, ↓rx_imul, ↓rx_irem, ↓rx_nil, ↓ry_fvs, ↓ry_fvz, ↓ry_i2, ↓ry_li0s, ↓ry_li0z, ↓ry_lr0s, ↓ry_lr0z, ↓ry_obu, ↓ry_r1, true_and, ↓bl_ob, ↓bl_r71, ↓bl_i76, ↓bl_i77, ↓bl_i78, ↓bl_i79, ↓bl_r80, ↓bl_r81, ↓mc_ob, ↓mc_i1, ↓mc_n1, ↓mc_i2, ↓mc_n2, ↓mc_i3, ↓mc_n3, ↓mc_r4, ↓mc_r7, ↓mc_i8, ↓mc_n8, ↓mc_i9, ↓mc_n9, ↓sm_ob, ↓sm_i1, ↓sm_n1, ↓sm_r2, ↓sm_i3, ↓sm_n3, ↓sm_r4, ↓rh_ob (hso _ _ _ _ _ _ _ _ _ _), ↓rh_aa (ht1 _ _ _ _ _ _ _ _ _ _), i0, pk_mul, rz_set, rz_nol, rz_clr, List.set_cons_zero, List.set_cons_succ, rz_tr, Nat.reduceAdd, Int.reduceAdd, Int.reduceToNat, Int.reduceSub, Int.reduceNeg, Int.cast_ofNat_Int]
    rw [nI_leI (by omega) (by omega), nI_leI (by omega) (by omega), d2, d1]
    refine ⟨fun c => by omega, fun c => ⟨fun c => by omega, fun c => ⟨by decide, by decide, hK _ _ _ _ ?_⟩⟩⟩
    refine rz_cV (As := [.int (nI (U.2.2.length / 3)), .int (nI (U.2.2.length % 3))]) (b := a) (S := []) l_Bld_100 (by decide +kernel) rfl bl_at0 rfl (Nat.le_of_ble_eq_true rfl) (Nat.le_refl _) (Nat.le_refl _) (c_Bld_follow (d := d + 3) (S := S) (nr := U.2.1) hm hs (by omega) (by omega) g1 g2 (fun q hq hb e he => by have := hRf S hSR q hq hb; have := hw e (mv_pl6 hm e he).1; omega) g3 hB.2.2.1 hB.2.1) (fun r G' hr => ?_)
    obtain ⟨rfl, I2, X2, rfl, hT, f1, f2, f3⟩ := hr
    simp only [Option.toList, List.nil_append]
    have hnx : bb_nx em ec U = bg_go em ec (U.2.2.length % 3) S U.2.1 := by
      simp only [bb_nx, List.getD_eq_getElem?_getD, hS, Option.getD_some]
    rw [← hnx] at hT f3
    have hTR : R0 (bc_ct (bb_nx em ec U)) := by rw [hnx]; exact hR1 S _ _ hSR (by omega)
    have hld := bc_ld_some (T := bb_nx em ec U)
    rw [← bc_ct1 (T := bb_nx em ec U)] at hld
    simp only [bb_1] at hc hf
    generalize hTd : bc_ct (bb_nx em ec U) = T at *
    obtain ⟨t1, t2, t3, t4⟩ := id hT
    have hB2 : bb_bl a P b kd af (U.1, T.2, U.2.2) A X2 := ⟨⟨h40, fun i S' hi => by
      obtain ⟨u1, u2, u3⟩ := hB.1.2 i S' hi
      exact ⟨u1, u2, fun q hq hb => by rw [f2 _ (Or.inr (Or.inr (by omega)))]; exact u3 q hq hb⟩⟩, t4, t3, hB.2.2.2⟩
    have hback : ∀ (U2 : bb_T) (I : Nat → Int32) (A : Nat → Nat → Int32) (X : Nat → List Nat) (Is : Nat → Int32) (As : Nat → Nat → Int32) (Xs : Nat → List Nat) (Ip : Nat → Int32) (Ap : Nat → Nat → Int32) (Xp : Nat → List Nat) (Pp : Nat → Nat) z5, U2.2.2.length = U.2.2.length + 1 → bb_bl a P b kd af U2 A X → bb_sm em ec op U2 Is As Xs → ps_xo Xp → (∀ S ∈ U2.1, R0 S) → bb_1 em ec kd U = some U2 → rz_T w (d + 6) 0 0 m_Bld_build 0 0 188 [some (.ref a), some (.ref am), some (.ref as), some (.ref ap), some (.int (nI U.2.2.length)), z5] [] (mc_put (bo_put (sm_put (ps_put G ap Ip Ap Jp Xp Pp) as Is As Js Xs Ps) a I A J X P) (a + 1) Im Am Jm Xm Pm) Q := by
      intro U2 I A X Is As Xs Ip Ap Xp Pp z5 hl2 e1 e2 e3 e4 e5
      have e5' := e5
      simp only [bb_1, hTd] at e5'
      rw [e5'] at hc hf
      refine rz_blk' [(.iinc 4 1, 3, 0, 0), (.goto (-114), 3, 0, 0)] (by decide +kernel) (Nat.le_refl _) (Nat.le_refl _) (fun K R hK hR => ?_)
      simp only [rw_c1, ↓rx_goto, ↓rx_iinc, ↓rx_nil, ↓ry_li0s, ↓ry_li0z, ↓bl_ob, ↓bl_r71, ↓bl_i76, ↓bl_i77, ↓bl_i78, ↓bl_i79, ↓bl_r80, ↓bl_r81, ↓mc_ob, ↓mc_i1, ↓mc_n1, ↓mc_i2, ↓mc_n2, ↓mc_i3, ↓mc_n3, ↓mc_r4, ↓mc_r7, ↓mc_i8, ↓mc_n8, ↓mc_i9, ↓mc_n9, ↓sm_ob, ↓sm_i1, ↓sm_n1, ↓sm_r2, ↓sm_i3, ↓sm_n3, ↓sm_r4, nI_add, rz_set, rz_nol, rz_clr, List.set_cons_zero, List.set_cons_succ, rz_tr, Nat.reduceAdd, Int.reduceAdd, Int.reduceToNat, Int.reduceSub, Int.reduceNeg, Int.cast_ofNat_Int]
      rw [← hl2]
      exact hK _ _ _ _ (ih U2 I A X Is As Xs Ip Ap Xp Pp z5 (by omega) e1 e2 e3 e4 hc hf)
    refine rz_blk' [(.aload_n 0, 1, 0, 0), (.getfield 90, 3, 8, 10), (.ifCond .eq 74, 3, 0, 0)] (by decide +kernel) (Nat.le_refl _) (Nat.le_refl _) (fun K R hK hR => ?_)
    simp only [↓rx_aload_n0, ↓rx_getfield, ↓rx_ifCond_eq, ↓rx_nil, ↓ry_fvs, ↓ry_fvz, ↓ry_i1, ↓ry_lr0s, ↓ry_lr0z, ↓ry_obu, ↓ry_r1, ↓bl_ob, ↓bl_r71, ↓bl_i76, ↓bl_i77, ↓bl_i78, ↓bl_i79, ↓bl_r80, ↓bl_r81, ↓mc_ob, ↓mc_i1, ↓mc_n1, ↓mc_i2, ↓mc_n2, ↓mc_i3, ↓mc_n3, ↓mc_r4, ↓mc_r7, ↓mc_i8, ↓mc_n8, ↓mc_i9, ↓mc_n9, ↓sm_ob, ↓sm_i1, ↓sm_n1, ↓sm_r2, ↓sm_i3, ↓sm_n3, ↓sm_r4, t1, rz_set, rz_nol, rz_clr, List.set_cons_zero, List.set_cons_succ, rz_tr, Nat.reduceAdd, Int.reduceAdd, Int.reduceToNat, Int.reduceSub, Int.reduceNeg, Int.cast_ofNat_Int]
    by_cases c0 : T.1 = 0
    · rw [c0]
      refine ⟨fun _ => hK _ _ _ _ ?_, fun z => absurd rfl z⟩
      refine hback (U.1, T.2, U.2.2 ++ [none]) I2 A X2 Is As Xs Ip Ap Xp Pp _ (by simp) ⟨hB2.1, hB2.2.1, hB2.2.2.1, hB2.2.2.2⟩ ⟨i0, hM.2.1, hM.2.2.1, ?_, fun i hi => ?_, hM.2.2.2.2.2⟩ hp hRS (by simp only [bb_1, hTd, if_pos c0])
      · simp; omega
      · obtain ⟨m1, m2⟩ := hM.2.2.2.2.1 i hi
        dsimp only
        by_cases ci : i < U.2.2.length
        · rw [List.getElem?_append_left ci]; exact ⟨m1, m2⟩
        · rw [List.getElem?_eq_none (by omega)] at m1 m2
          by_cases ci2 : i = U.2.2.length
          · subst ci2
            rw [List.getElem?_append_right (by omega), Nat.sub_self]
            exact ⟨m1, m2⟩
          · rw [List.getElem?_eq_none (by simp; omega)]; exact ⟨m1, m2⟩
    refine ⟨fun z => absurd z (nI_ne0 (by omega) (by omega)), fun _ => hK _ _ _ _ ?_⟩
    obtain ⟨ld, hld⟩ := hld t2 c0
    have x2ld : X2 2 = ld := f3 ld hld
    have hone : ∀ t, U.1.findIdx? (be_eq T) = some t ∨ (U.1.findIdx? (be_eq T) = none ∧ U.1.findIdx? (bp_al em ec kd T) = some t) → bb_1 em ec kd U = some (U.1, T.2, U.2.2 ++ [some (t, ld)]) := fun t ht => by
      simp only [bb_1, hTd, if_neg c0, hld, Option.getD_some]
      rcases ht with ht | ⟨ht, ht2⟩
      · rw [ht]
      · rw [ht, ht2]
    have h157 : ∀ (TS2 : List bf_T) (I : Nat → Int32) (A : Nat → Nat → Int32) (X : Nat → List Nat) (Is : Nat → Int32) (As : Nat → Nat → Int32) (Xs : Nat → List Nat) (Ip : Nat → Int32) (Ap : Nat → Nat → Int32) (Xp : Nat → List Nat) (Pp : Nat → Nat) t, t < 40 → (∃ N, TS2 = U.1 ++ N) → bb_bl a P b kd af (TS2, T.2, U.2.2) A X → bb_sm em ec op (TS2, T.2, U.2.2) Is As Xs → X 2 = ld → ps_xo Xp → (∀ S ∈ TS2, R0 S) → bb_1 em ec kd U = some (TS2, T.2, U.2.2 ++ [some (t, ld)]) → rz_T w (d + 6) 0 0 m_Bld_build 0 0 157 [some (.ref a), some (.ref am), some (.ref as), some (.ref ap), some (.int (nI U.2.2.length)), some (.int (nI t))] [] (mc_put (bo_put (sm_put (ps_put G ap Ip Ap Jp Xp Pp) as Is As Js Xs Ps) a I A J X P) (a + 1) Im Am Jm Xm Pm) Q := by
      intro TS2 I A X Is As Xs Ip Ap Xp Pp t ht hN e1 e2 e3 e4 e5 e6
      obtain ⟨N, hN⟩ := hN
      have hlen : U.1.length ≤ TS2.length := by rw [hN]; simp
      rw [← bl_sm has]
      have hxo : wd_ok 11 ld := e3 ▸ e1.2.1.2.2.1
      have hob : ∀ As Xs, (sm_put (mc_put (bo_put (ps_put G ap Ip Ap Jp Xp Pp) a I A J X P) (a + 1) Im Am Jm Xm Pm) as Is As Js Xs Ps) a = some (.inr (8, bo_fs a I P)) := fun As Xs => by rw [sm_out (by omega)]; exact bl_at0
      refine rz_blk' [(.iload 5, 2, 0, 0), (.iconst (-1), 1, 0, 0), (.if_icmp .ne 5, 3, 0, 0), (.iconst 0, 1, 0, 0), (.ireturn, 1, 0, 0)] (by decide +kernel) (Nat.le_refl _) (Nat.le_refl _) (fun K R hK hR => ?_)
      simp only [rw_c0, rw_cm1, ↓rx_iconst, ↓rx_if_icmp_ne, ↓rx_iload, ↓rx_ireturn, ↓rx_nil, ↓ry_i2, ↓ry_li0s, ↓ry_li0z, ↓bl_ob, ↓bl_r71, ↓bl_i76, ↓bl_i77, ↓bl_i78, ↓bl_i79, ↓bl_r80, ↓bl_r81, ↓mc_ob, ↓mc_i1, ↓mc_n1, ↓mc_i2, ↓mc_n2, ↓mc_i3, ↓mc_n3, ↓mc_r4, ↓mc_r7, ↓mc_i8, ↓mc_n8, ↓mc_i9, ↓mc_n9, ↓sm_ob, ↓sm_i1, ↓sm_n1, ↓sm_r2, ↓sm_i3, ↓sm_n3, ↓sm_r4, rz_set, rz_nol, rz_clr, List.set_cons_zero, List.set_cons_succ, rz_tr, Nat.reduceAdd, Int.reduceAdd, Int.reduceToNat, Int.reduceSub, Int.reduceNeg, Int.cast_ofNat_Int]
      refine ⟨fun z => hK _ _ _ _ ?_, fun z => absurd z (hp_m1 t (by omega))⟩
      refine rz_blk' [(.aload_n 2, 1, 0, 0), (.getfield 97, 3, 7, 1), (.iload 4, 2, 0, 0), (.iload 5, 2, 0, 0), (.iastore, 1, 0, 0)] (by decide +kernel) (Nat.le_refl _) (Nat.le_refl _) (fun K R hK hR => ?_)
      simp only [↓rx_aload_n2, ↓rx_getfield, ↓rx_iastore, ↓rx_iload, ↓rx_nil, ↓ry_fvs, ↓ry_fvz, ↓ry_iau, ↓ry_li0s, ↓ry_li0z, ↓ry_lr0s, ↓ry_lr0z, ↓ry_obu, ↓ry_r1, ↓ry_rii, true_and, ↓bl_ob, ↓bl_r71, ↓bl_i76, ↓bl_i77, ↓bl_i78, ↓bl_i79, ↓bl_r80, ↓bl_r81, ↓mc_ob, ↓mc_i1, ↓mc_n1, ↓mc_i2, ↓mc_n2, ↓mc_i3, ↓mc_n3, ↓mc_r4, ↓mc_r7, ↓mc_i8, ↓mc_n8, ↓mc_i9, ↓mc_n9, ↓sm_ob, ↓sm_i1, ↓sm_n1, ↓sm_r2, ↓sm_i3, ↓sm_n3, ↓sm_r4, sm_a1, rz_set, rz_nol, rz_clr, List.set_cons_zero, List.set_cons_succ, rz_tr, Nat.reduceAdd, Int.reduceAdd, Int.reduceToNat, Int.reduceSub, Int.reduceNeg, Int.cast_ofNat_Int]
      rw [nI_clamp (by omega)]
      refine ⟨vp_in_nI (by omega) (by decide), hK _ _ _ _ ?_⟩
      generalize hAs2 : va_up As 0 _ = As2
      refine rz_blk' [(.aload_n 2, 1, 0, 0), (.getfield 112, 3, 7, 2), (.iload 4, 2, 0, 0), (.aaload, 1, 0, 0), (.aload_n 0, 1, 0, 0), (.getfield 53, 3, 8, 12)] (by decide +kernel) (Nat.le_refl _) (Nat.le_refl _) (fun K R hK hR => ?_)
      simp only [Nat.reduceEqDiff, false_or, or_false, or_true, reduceIte, ↓rx_aaload, ↓rx_aload_n0, ↓rx_aload_n2, ↓rx_getfield, ↓rx_iload, ↓rx_nil, ↓ry_fvs, ↓ry_fvz, ↓ry_li0s, ↓ry_li0z, ↓ry_lr0s, ↓ry_lr0z, ↓ry_obu, ↓ry_r1, ↓ry_ri, true_and, true_or, ↓bl_ob, ↓bl_r71, ↓bl_i76, ↓bl_i77, ↓bl_i78, ↓bl_i79, ↓bl_r80, ↓bl_r81, ↓mc_ob, ↓mc_i1, ↓mc_n1, ↓mc_i2, ↓mc_n2, ↓mc_i3, ↓mc_n3, ↓mc_r4, ↓mc_r7, ↓mc_i8, ↓mc_n8, ↓mc_i9, ↓mc_n9, ↓sm_ob, ↓sm_i1, ↓sm_n1, ↓sm_r2, ↓sm_i3, ↓sm_n3, ↓sm_r4, ↓rh_ob (hob _ _), rz_set, rz_nol, rz_clr, List.set_cons_zero, List.set_cons_succ, rz_tr, Nat.reduceAdd, Int.reduceAdd, Int.reduceToNat, Int.reduceSub, Int.reduceNeg, Int.cast_ofNat_Int]
      rw [nI_clamp (by omega)]
      refine ⟨vp_in_nI (by omega) (by decide), hK _ _ _ _ ?_⟩
      have w1 : wd_is (sm_put (mc_put (bo_put (ps_put G ap Ip Ap Jp Xp Pp) a I A J X P) (a + 1) Im Am Jm Xm Pm) as Is As2 Js Xs Ps) (as + (7 + 2 * U.2.2.length)) 11 (Xs (1 + U.2.2.length)) := sm_wi (by omega) (e2.2.1 _ (by omega))
      have w2 : wd_is (sm_put (mc_put (bo_put (ps_put G ap Ip Ap Jp Xp Pp) a I A J X P) (a + 1) Im Am Jm Xm Pm) as Is As2 Js Xs Ps) (a + 82) 11 ld := by
        have := bl_wi82 (G := (ps_put G ap Ip Ap Jp Xp Pp)) (a := a) (I := I) (A := A) (J := J) (X := X) (P := P) (Im := Im) (Am := Am) (Jm := Jm) (Xm := Xm) (Pm := Pm) e1.2.1.2.2.1
        rw [e3] at this
        exact sm_rwi (by omega) this
      refine rz_cV (As := [.ref (a + 82)]) (b := as + (7 + 2 * U.2.2.length)) (S := []) l_Bld_86 (by decide +kernel) rfl w1.1 rfl (Nat.le_of_ble_eq_true rfl) (Nat.le_refl _) (Nat.le_refl _) (c_Word_copy w1 w2 (by omega)) (fun r G' hr => ?_)
      obtain ⟨rfl, rfl⟩ := hr
      rw [if_pos hxo.1, sm_wp (by omega), bl_sm has]
      simp only [Option.toList, List.nil_append]
      refine hback (TS2, T.2, U.2.2 ++ [some (t, ld)]) I A X Is As2 _ Ip Ap Xp Pp _ (by simp) ⟨e1.1, e1.2.1, e1.2.2.1, e1.2.2.2⟩ ⟨e2.1, fun j hj => ?_, ?_, ?_, fun i hi => ?_, fun i S' hi => ?_⟩ e4 e5 e6
      · by_cases cj : j = 1 + U.2.2.length
        · subst cj; rw [va_up_self]; exact hxo
        · rw [va_up_ne _ _ cj]; exact e2.2.1 j hj
      · rw [va_up_ne _ _ (by omega)]; exact e2.2.2.1
      · simp; omega
      · obtain ⟨m1, m2⟩ := e2.2.2.2.2.1 i hi
        dsimp only at m1 m2 ⊢
        rw [← hAs2, va_up_self]
        by_cases ci2 : i = U.2.2.length
        · subst ci2
          rw [pk_us, va_up_self, List.getElem?_append_right (by omega), Nat.sub_self]
          exact ⟨rfl, rfl⟩
        rw [pk_un ci2, va_up_ne _ _ (by omega)]
        by_cases ci : i < U.2.2.length
        · rw [List.getElem?_append_left ci]; exact ⟨m1, m2⟩
        · rw [List.getElem?_eq_none (by omega)] at m1 m2
          rw [List.getElem?_eq_none (by simp; omega)]; exact ⟨m1, m2⟩
      · obtain ⟨m1, m2⟩ := e2.2.2.2.2.2 i S' hi
        have hi40 : i < 40 := by
          have := (List.getElem?_eq_some_iff.mp hi).1
          have := e1.1.1
          dsimp only at *
          omega
        rw [← hAs2, va_up_ne _ _ (by decide), va_up_ne _ _ (by omega)]
        exact ⟨m1, m2⟩
    refine rz_blk' [(.aload_n 0, 1, 0, 0), (.aload_n 2, 1, 0, 0), (.getfield 56, 3, 7, 0)] (by decide +kernel) (Nat.le_refl _) (Nat.le_refl _) (fun K R hK hR => ?_)
    simp only [↓rx_aload_n0, ↓rx_aload_n2, ↓rx_getfield, ↓rx_nil, ↓ry_fvs, ↓ry_fvz, ↓ry_lr0s, ↓ry_lr0z, ↓ry_obu, ↓ry_r1, ↓bl_ob, ↓bl_r71, ↓bl_i76, ↓bl_i77, ↓bl_i78, ↓bl_i79, ↓bl_r80, ↓bl_r81, ↓mc_ob, ↓mc_i1, ↓mc_n1, ↓mc_i2, ↓mc_n2, ↓mc_i3, ↓mc_n3, ↓mc_r4, ↓mc_r7, ↓mc_i8, ↓mc_n8, ↓mc_i9, ↓mc_n9, ↓sm_ob, ↓sm_i1, ↓sm_n1, ↓sm_r2, ↓sm_i3, ↓sm_n3, ↓sm_r4, ↓rh_ob (hso _ _ _ _ _ _ _ _ _ _), i0, rz_set, rz_nol, rz_clr, List.set_cons_zero, List.set_cons_succ, rz_tr, Nat.reduceAdd, Int.reduceAdd, Int.reduceToNat, Int.reduceSub, Int.reduceNeg, Int.cast_ofNat_Int]
    refine hK _ _ _ _ ?_
    refine rz_cV (As := [.int (nI U.1.length)]) (b := a) (S := []) l_Bld_104 (by decide +kernel) rfl bl_at0 rfl (Nat.le_of_ble_eq_true rfl) (Nat.le_refl _) (Nat.le_refl _) (c_Bld_equalSet (d := d + 4) hT hB2.1) (fun r G' hr => ?_)
    obtain ⟨rfl, hg⟩ := hr
    have hg := hg.symm
    subst hg
    simp only [Option.toList, List.cons_append, List.nil_append]
    refine rz_blk' [(.istore 5, 2, 0, 0)] (by decide +kernel) (Nat.le_refl _) (Nat.le_refl _) (fun K R hK hR => ?_)
    simp only [↓rx_istore, ↓rx_nil, ↓ry_i1, ↓bl_ob, ↓bl_r71, ↓bl_i76, ↓bl_i77, ↓bl_i78, ↓bl_i79, ↓bl_r80, ↓bl_r81, ↓mc_ob, ↓mc_i1, ↓mc_n1, ↓mc_i2, ↓mc_n2, ↓mc_i3, ↓mc_n3, ↓mc_r4, ↓mc_r7, ↓mc_i8, ↓mc_n8, ↓mc_i9, ↓mc_n9, ↓sm_ob, ↓sm_i1, ↓sm_n1, ↓sm_r2, ↓sm_i3, ↓sm_n3, ↓sm_r4, rz_set, rz_nol, rz_clr, List.set_cons_zero, List.set_cons_succ, rz_tr, Nat.reduceAdd, Int.reduceAdd, Int.reduceToNat, Int.reduceSub, Int.reduceNeg, Int.cast_ofNat_Int]
    refine hK _ _ _ _ ?_
    refine rz_blk' [(.iload 5, 2, 0, 0), (.iconst (-1), 1, 0, 0), (.if_icmp .ne 14, 3, 0, 0)] (by decide +kernel) (Nat.le_refl _) (Nat.le_refl _) (fun K R hK hR => ?_)
    simp only [rw_cm1, ↓rx_iconst, ↓rx_if_icmp_ne, ↓rx_iload, ↓rx_nil, ↓ry_i2, ↓ry_li0s, ↓ry_li0z, ↓bl_ob, ↓bl_r71, ↓bl_i76, ↓bl_i77, ↓bl_i78, ↓bl_i79, ↓bl_r80, ↓bl_r81, ↓mc_ob, ↓mc_i1, ↓mc_n1, ↓mc_i2, ↓mc_n2, ↓mc_i3, ↓mc_n3, ↓mc_r4, ↓mc_r7, ↓mc_i8, ↓mc_n8, ↓mc_i9, ↓mc_n9, ↓sm_ob, ↓sm_i1, ↓sm_n1, ↓sm_r2, ↓sm_i3, ↓sm_n3, ↓sm_r4, rz_set, rz_nol, rz_clr, List.set_cons_zero, List.set_cons_succ, rz_tr, Nat.reduceAdd, Int.reduceAdd, Int.reduceToNat, Int.reduceSub, Int.reduceNeg, Int.cast_ofNat_Int]
    have hM2 : bb_sm em ec op (U.1, T.2, U.2.2) Is As Xs := hM
    have h144 : ∀ (I : Nat → Int32) (A : Nat → Nat → Int32) (X : Nat → List Nat) (Is : Nat → Int32) (As : Nat → Nat → Int32) (Xs : Nat → List Nat) (Ip : Nat → Int32) (Ap : Nat → Nat → Int32) (Xp : Nat → List Nat) (Pp : Nat → Nat) t, U.1.findIdx? (be_eq T) = some t ∨ (U.1.findIdx? (be_eq T) = none ∧ U.1.findIdx? (bp_al em ec kd T) = some t) → bb_bl a P b kd af (U.1, T.2, U.2.2) A X → bb_sm em ec op (U.1, T.2, U.2.2) Is As Xs → X 2 = ld → ps_xo Xp → rz_T w (d + 6) 0 0 m_Bld_build 0 0 144 [some (.ref a), some (.ref am), some (.ref as), some (.ref ap), some (.int (nI U.2.2.length)), some (.int (nI t))] [] (mc_put (bo_put (sm_put (ps_put G ap Ip Ap Jp Xp Pp) as Is As Js Xs Ps) a I A J X P) (a + 1) Im Am Jm Xm Pm) Q := by
      intro I A X Is As Xs Ip Ap Xp Pp t ht e1 e2 e3 e4
      have t40 : t < 40 := by
        have : t < U.1.length := by
          rcases ht with ht | ⟨-, ht⟩ <;> exact (List.findIdx?_eq_some_iff_getElem.mp ht).1
        omega
      refine rz_blk' [(.iload 5, 2, 0, 0), (.iconst (-1), 1, 0, 0), (.if_icmp .ne 10, 3, 0, 0)] (by decide +kernel) (Nat.le_refl _) (Nat.le_refl _) (fun K R hK hR => ?_)
      simp only [rw_cm1, ↓rx_iconst, ↓rx_if_icmp_ne, ↓rx_iload, ↓rx_nil, ↓ry_i2, ↓ry_li0s, ↓ry_li0z, ↓bl_ob, ↓bl_r71, ↓bl_i76, ↓bl_i77, ↓bl_i78, ↓bl_i79, ↓bl_r80, ↓bl_r81, ↓mc_ob, ↓mc_i1, ↓mc_n1, ↓mc_i2, ↓mc_n2, ↓mc_i3, ↓mc_n3, ↓mc_r4, ↓mc_r7, ↓mc_i8, ↓mc_n8, ↓mc_i9, ↓mc_n9, ↓sm_ob, ↓sm_i1, ↓sm_n1, ↓sm_r2, ↓sm_i3, ↓sm_n3, ↓sm_r4, rz_set, rz_nol, rz_clr, List.set_cons_zero, List.set_cons_succ, rz_tr, Nat.reduceAdd, Int.reduceAdd, Int.reduceToNat, Int.reduceSub, Int.reduceNeg, Int.cast_ofNat_Int]
      exact ⟨fun _ => hK _ _ _ _ (h157 U.1 I A X Is As Xs Ip Ap Xp Pp t t40 ⟨[], by simp⟩ e1 e2 e3 e4 hRS (hone t ht)), fun z => absurd z (hp_m1 t (by omega))⟩
    by_cases ce : ∃ t, U.1.findIdx? (be_eq T) = some t
    · obtain ⟨t, ht⟩ := ce
      have t40 : t < 40 := by
        have : t < U.1.length := (List.findIdx?_eq_some_iff_getElem.mp ht).1
        omega
      rw [ht]
      exact ⟨fun _ => hK _ _ _ _ (h144 I2 A X2 Is As Xs Ip Ap Xp Pp t (Or.inl ht) hB2 hM2 x2ld hp), fun z => absurd z (hp_m1 t (by omega))⟩
    have ce : U.1.findIdx? (be_eq T) = none := by
      cases h : U.1.findIdx? (be_eq T) with
      | none => rfl
      | some t => exact absurd ⟨t, h⟩ ce
    rw [ce]
    refine ⟨fun z => absurd rfl z, fun _ => hK _ _ _ _ ?_⟩
    refine rz_blk' [(.aload_n 0, 1, 0, 0), (.aload_n 2, 1, 0, 0), (.getfield 56, 3, 7, 0), (.aload_n 3, 1, 0, 0)] (by decide +kernel) (Nat.le_refl _) (Nat.le_refl _) (fun K R hK hR => ?_)
    simp only [↓rx_aload_n0, ↓rx_aload_n2, ↓rx_aload_n3, ↓rx_getfield, ↓rx_nil, ↓ry_fvs, ↓ry_fvz, ↓ry_lr0s, ↓ry_lr0z, ↓ry_obu, ↓ry_r1, ↓bl_ob, ↓bl_r71, ↓bl_i76, ↓bl_i77, ↓bl_i78, ↓bl_i79, ↓bl_r80, ↓bl_r81, ↓mc_ob, ↓mc_i1, ↓mc_n1, ↓mc_i2, ↓mc_n2, ↓mc_i3, ↓mc_n3, ↓mc_r4, ↓mc_r7, ↓mc_i8, ↓mc_n8, ↓mc_i9, ↓mc_n9, ↓sm_ob, ↓sm_i1, ↓sm_n1, ↓sm_r2, ↓sm_i3, ↓sm_n3, ↓sm_r4, ↓rh_ob (hso _ _ _ _ _ _ _ _ _ _), i0, rz_set, rz_nol, rz_clr, List.set_cons_zero, List.set_cons_succ, rz_tr, Nat.reduceAdd, Int.reduceAdd, Int.reduceToNat, Int.reduceSub, Int.reduceNeg, Int.cast_ofNat_Int]
    have hsw : ∀ I A X Ip Ap Xp Pp, (mc_put (bo_put (sm_put (ps_put G ap Ip Ap Jp Xp Pp) as Is As Js Xs Ps) a I A J X P) (a + 1) Im Am Jm Xm Pm) = ps_put (mc_put (bo_put (sm_put G as Is As Js Xs Ps) a I A J X P) (a + 1) Im Am Jm Xm Pm) ap Ip Ap Jp Xp Pp := fun I A X Ip Ap Xp Pp => by
      rw [bl_ps hap]
      have e1 : sm_put (ps_put G ap Ip Ap Jp Xp Pp) as Is As Js Xs Ps = ps_put (sm_put G as Is As Js Xs Ps) ap Ip Ap Jp Xp Pp := ov_comm (by omega)
      rw [e1]
    refine hK _ _ _ _ ?_
    rw [hsw]
    refine rz_cV (As := [.int (nI U.1.length), .ref ap]) (b := a) (S := []) l_Bld_108 (by decide +kernel) rfl (by rw [ps_out (by omega)]; exact bl_at0) rfl (Nat.le_of_ble_eq_true rfl) (Nat.le_refl _) (Nat.le_refl _) (c_Bld_alikeSet (d := d) hm hs hap hT hB2.1 hB2.2.2.2 hOk (fun S hS n hn => hO0 S T (hRS S hS) hTR n hn) (fun S hS q hq hb => by have := hRf S (hRS S hS) q hq hb; omega) (fun q hq hb => by have := hRf T hTR q hq hb; omega) hp) (fun r G' hr => ?_)
    obtain ⟨rfl, Ip2, Ap2, Xp2, Pp2, rfl, hp2⟩ := hr
    rw [← hsw]
    simp only [Option.toList, List.cons_append, List.nil_append]
    refine rz_blk' [(.istore 5, 2, 0, 0)] (by decide +kernel) (Nat.le_refl _) (Nat.le_refl _) (fun K R hK hR => ?_)
    simp only [↓rx_istore, ↓rx_nil, ↓ry_i1, ↓bl_ob, ↓bl_r71, ↓bl_i76, ↓bl_i77, ↓bl_i78, ↓bl_i79, ↓bl_r80, ↓bl_r81, ↓mc_ob, ↓mc_i1, ↓mc_n1, ↓mc_i2, ↓mc_n2, ↓mc_i3, ↓mc_n3, ↓mc_r4, ↓mc_r7, ↓mc_i8, ↓mc_n8, ↓mc_i9, ↓mc_n9, ↓sm_ob, ↓sm_i1, ↓sm_n1, ↓sm_r2, ↓sm_i3, ↓sm_n3, ↓sm_r4, rz_set, rz_nol, rz_clr, List.set_cons_zero, List.set_cons_succ, rz_tr, Nat.reduceAdd, Int.reduceAdd, Int.reduceToNat, Int.reduceSub, Int.reduceNeg, Int.cast_ofNat_Int]
    refine hK _ _ _ _ ?_
    by_cases ca : ∃ t, U.1.findIdx? (bp_al em ec kd T) = some t
    · obtain ⟨t, ht⟩ := ca
      rw [ht]
      exact h144 I2 A X2 Is As Xs Ip2 Ap2 Xp2 Pp2 t (Or.inr ⟨ce, ht⟩) hB2 hM2 x2ld hp2
    have ca : U.1.findIdx? (bp_al em ec kd T) = none := by
      cases h : U.1.findIdx? (bp_al em ec kd T) with
      | none => rfl
      | some t => exact absurd ⟨t, h⟩ ca
    rw [ca]
    refine rz_blk' [(.iload 5, 2, 0, 0), (.iconst (-1), 1, 0, 0), (.if_icmp .ne 10, 3, 0, 0), (.aload_n 0, 1, 0, 0), (.aload_n 2, 1, 0, 0)] (by decide +kernel) (Nat.le_refl _) (Nat.le_refl _) (fun K R hK hR => ?_)
    simp only [rw_cm1, ↓rx_aload_n0, ↓rx_aload_n2, ↓rx_iconst, ↓rx_if_icmp_ne, ↓rx_iload, ↓rx_nil, ↓ry_i2, ↓ry_li0s, ↓ry_li0z, ↓ry_lr0s, ↓ry_lr0z, ↓bl_ob, ↓bl_r71, ↓bl_i76, ↓bl_i77, ↓bl_i78, ↓bl_i79, ↓bl_r80, ↓bl_r81, ↓mc_ob, ↓mc_i1, ↓mc_n1, ↓mc_i2, ↓mc_n2, ↓mc_i3, ↓mc_n3, ↓mc_r4, ↓mc_r7, ↓mc_i8, ↓mc_n8, ↓mc_i9, ↓mc_n9, ↓sm_ob, ↓sm_i1, ↓sm_n1, ↓sm_r2, ↓sm_i3, ↓sm_n3, ↓sm_r4, rz_set, rz_nol, rz_clr, List.set_cons_zero, List.set_cons_succ, rz_tr, Nat.reduceAdd, Int.reduceAdd, Int.reduceToNat, Int.reduceSub, Int.reduceNeg, Int.cast_ofNat_Int]
    refine ⟨fun z => absurd rfl z, fun _ => hK _ _ _ _ ?_⟩
    rw [← bl_sm has]
    refine rz_cV (As := [.ref as]) (b := a) (S := []) l_Bld_93 (by decide +kernel) rfl (by rw [sm_out (by omega)]; exact bl_at0) rfl (Nat.le_of_ble_eq_true rfl) (Nat.le_refl _) (Nat.le_refl _) (c_Bld_addSet (d := d + 3) hm hs has (fun q hq hb => by have := hRf T hTR q hq hb; have := hwf q hq; omega) hT hB2.1 i0 hM.2.1) (fun r G' hr => ?_)
    rcases hr with ⟨a1, rfl, rfl⟩ | ⟨a1, rfl, A3, X3, As3, Xs3, rfl, n1, n2, n3, n4, n5, n6, n7, n8⟩
    · dsimp only at a1
      rw [bl_sm has]
      simp only [Option.toList, List.cons_append, List.nil_append]
      refine rz_blk' [(.istore 5, 2, 0, 0)] (by decide +kernel) (Nat.le_refl _) (Nat.le_refl _) (fun K R hK hR => ?_)
      simp only [↓rx_istore, ↓rx_nil, ↓ry_i1, ↓bl_ob, ↓bl_r71, ↓bl_i76, ↓bl_i77, ↓bl_i78, ↓bl_i79, ↓bl_r80, ↓bl_r81, ↓mc_ob, ↓mc_i1, ↓mc_n1, ↓mc_i2, ↓mc_n2, ↓mc_i3, ↓mc_n3, ↓mc_r4, ↓mc_r7, ↓mc_i8, ↓mc_n8, ↓mc_i9, ↓mc_n9, ↓sm_ob, ↓sm_i1, ↓sm_n1, ↓sm_r2, ↓sm_i3, ↓sm_n3, ↓sm_r4, rz_set, rz_nol, rz_clr, List.set_cons_zero, List.set_cons_succ, rz_tr, Nat.reduceAdd, Int.reduceAdd, Int.reduceToNat, Int.reduceSub, Int.reduceNeg, Int.cast_ofNat_Int]
      refine hK _ _ _ _ ?_
      refine rz_blk' [(.iload 5, 2, 0, 0), (.iconst (-1), 1, 0, 0), (.if_icmp .ne 5, 3, 0, 0), (.iconst 0, 1, 0, 0), (.ireturn, 1, 0, 0)] (by decide +kernel) (Nat.le_refl _) (Nat.le_refl _) (fun K R hK hR => ?_)
      simp only [rw_c0, rw_cm1, ↓rx_iconst, ↓rx_if_icmp_ne, ↓rx_iload, ↓rx_ireturn, ↓rx_nil, ↓ry_i2, ↓ry_li0s, ↓ry_li0z, ↓bl_ob, ↓bl_r71, ↓bl_i76, ↓bl_i77, ↓bl_i78, ↓bl_i79, ↓bl_r80, ↓bl_r81, ↓mc_ob, ↓mc_i1, ↓mc_n1, ↓mc_i2, ↓mc_n2, ↓mc_i3, ↓mc_n3, ↓mc_r4, ↓mc_r7, ↓mc_i8, ↓mc_n8, ↓mc_i9, ↓mc_n9, ↓sm_ob, ↓sm_i1, ↓sm_n1, ↓sm_r2, ↓sm_i3, ↓sm_n3, ↓sm_r4, rz_set, rz_nol, rz_clr, List.set_cons_zero, List.set_cons_succ, rz_tr, Nat.reduceAdd, Int.reduceAdd, Int.reduceToNat, Int.reduceSub, Int.reduceNeg, Int.cast_ofNat_Int]
      refine ⟨fun z => absurd trivial z, fun _ => hR _ _ rz_nb_0 ?_⟩
      refine hf I2 A X2 Is As Xs Ip2 Ap2 Xp2 Pp2 ?_ t4 hB2.2.2.2 hM.2.1 hp2
      simp only [if_neg c0, ce, ca, if_neg (show ¬ U.1.length < 40 by omega), Option.bind_none]
    dsimp only at a1 n1 n6 n7 n8
    rw [bl_sm has]
    simp only [Option.toList, List.cons_append, List.nil_append]
    refine rz_blk' [(.istore 5, 2, 0, 0)] (by decide +kernel) (Nat.le_refl _) (Nat.le_refl _) (fun K R hK hR => ?_)
    simp only [↓rx_istore, ↓rx_nil, ↓ry_i1, ↓bl_ob, ↓bl_r71, ↓bl_i76, ↓bl_i77, ↓bl_i78, ↓bl_i79, ↓bl_r80, ↓bl_r81, ↓mc_ob, ↓mc_i1, ↓mc_n1, ↓mc_i2, ↓mc_n2, ↓mc_i3, ↓mc_n3, ↓mc_r4, ↓mc_r7, ↓mc_i8, ↓mc_n8, ↓mc_i9, ↓mc_n9, ↓sm_ob, ↓sm_i1, ↓sm_n1, ↓sm_r2, ↓sm_i3, ↓sm_n3, ↓sm_r4, rz_set, rz_nol, rz_clr, List.set_cons_zero, List.set_cons_succ, rz_tr, Nat.reduceAdd, Int.reduceAdd, Int.reduceToNat, Int.reduceSub, Int.reduceNeg, Int.cast_ofNat_Int]
    refine hK _ _ _ _ ?_
    refine h157 (U.1 ++ [T]) I2 A3 X3 _ As3 Xs3 Ip2 Ap2 Xp2 Pp2 U.1.length a1 ⟨[T], rfl⟩ ⟨n1, n2.2.2.2, n2.2.2.1, bk_keep hB2.2.2.2 n3⟩ ⟨?_, n5, ?_, ?_, fun i hi => ?_, fun i S' hi => ?_⟩ ?_ hp2 ?_ ?_
    · rw [pk_us]; simp
    · rw [n8, if_neg (by omega), if_neg (by omega)]; exact hM.2.2.1
    · simp; omega
    · dsimp only at hi ⊢
      rw [List.length_append, List.length_singleton] at hi
      rw [n6, n8, if_neg (show ¬ 1 + i = 121 + U.1.length by omega)]
      by_cases ci : U.1.length * 3 ≤ i
      · rw [if_pos (by omega), if_pos (by omega), List.getElem?_eq_none (by omega)]
        exact ⟨rfl, rfl⟩
      · rw [if_neg (by omega), if_neg (by omega)]
        exact hM.2.2.2.2.1 i (by omega)
    · dsimp only at hi
      rw [n7, n8]
      by_cases ci : i < U.1.length
      · rw [List.getElem?_append_left ci] at hi
        rw [pk_un (by omega), if_neg (by omega), if_neg (by omega)]
        exact hM.2.2.2.2.2 i S' hi
      · have hi2 : i = U.1.length := by
          have := (List.getElem?_eq_some_iff.mp hi).1
          simp at this; omega
        subst hi2
        simp at hi
        subst hi
        rw [pk_us, if_pos rfl]
        exact ⟨rfl, rfl⟩
    · rw [n4 2 (by omega)]; exact x2ld
    · intro S' hS'
      rcases List.mem_append.mp hS' with h | h
      · exact hRS S' h
      · rw [List.mem_singleton] at h; rw [h]; exact hTR
    · simp only [bb_1, hTd, if_neg c0, hld, Option.getD_some, ce, ca, if_pos a1]
end BBL

