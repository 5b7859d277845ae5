/-! WriterDesk$Builder: build -/
abbrev sv_T : Type := List Nat × List (Option (List Nat)) × List (Option (Nat × List Nat))
def sv_is (Is : Nat → Int32) (As : Nat → Nat → Int32) (Xs : Nat → List Nat) (v : sv_T) : Prop :=
  Is 0 = nI v.2.1.length ∧ v.2.1.length ≤ 40 ∧ sm_xo Xs ∧ Xs 0 = v.1 ∧ (∀ i, i < 3 * v.2.1.length → As 0 i = bb_t v.2.2[i]? ∧ Xs (1 + i) = bb_w v.2.2[i]?) ∧ ∀ i f, v.2.1[i]? = some f → As 1 i = rz_b f.isSome ∧ Xs (121 + i) = f.getD []
def bu_S (m : mv_T) (cl : Nat) (hd : Nat → List Nat) : bh_T := bh_go m cl 200 true (0, hd)
def bu_e (m : mv_T) (cl : Nat) (hd : Nat → List Nat) : mv_T := me_m m cl (bu_S m cl hd).2
def bu_c (m : mv_T) (cl : Nat) : Nat := me_c m cl m.1
def bu_T0 (nr : Nat → List Nat) : bf_T := (1, va_up nr 0 [])
def bu_g (m : mv_T) (cl : Nat) (hd nr : Nat → List Nat) : Option bb_T := bb_go (bu_e m cl hd) (bu_c m cl) (bk_kd (bu_e m cl hd) (bu_c m cl)) 120 ([bu_T0 nr], va_up nr 0 [], [])
def bu_v (m : mv_T) (cl : Nat) (hd nr : Nat → List Nat) : Option sv_T := if mv_al m cl = 0 then some ([], [none], []) else (bu_g m cl hd nr).map (fun U => ((bu_e m cl hd).2.2.2, U.1.map (ad_fw (bu_e m cl hd) (bu_c m cl)), U.2.2))
/-- what the lengths of heads and rests must keep to -/
def bu_ok (m : mv_T) (cl : Nat) (hd nr : Nat → List Nat) : Prop :=
  (∃ Inv : bh_T → Prop, (∀ S q, Inv S → q < 6 → (mv_al m cl).testBit q = true → Inv (bh_1 m cl S q).1) ∧ (∀ S, Inv S → ∀ q, q < 6 → S.1.testBit q = true → (S.2 q).length ≤ 45) ∧ Inv (0, hd)) ∧
  ((bu_S m cl hd).2 0).length ≤ 45 ∧ (∀ e ∈ mv_so m (mv_al m cl) 18, ((bu_S m cl hd).2 (mv_e m e).2.2.1).length ≤ 45) ∧ (∀ q, q < 6 → (cl &&& mv_al m cl).testBit q = true → ((bu_S m cl hd).2 q).length ≤ (ps_fin m q).length) ∧ (∀ e ∈ mv_so m (mv_al m cl) 18, ((bu_S m cl hd).2 (mv_e m e).1).length ≤ ((mv_e m e).2.2.2 ++ (bu_S m cl hd).2 (mv_e m e).2.2.1).length) ∧
  ∃ (R0 : bf_T → Prop) (Ok : Nat → ps_nd → Prop), (∀ S l nr, R0 S → l < 3 → R0 (bc_ct (bg_go (bu_e m cl hd) (bu_c m cl) l S nr))) ∧ (∀ S, R0 S → ∀ q, q < 6 → S.1.testBit q = true → (S.2 q).length ≤ 126) ∧
    (∀ k n, k < 72 → Ok k n → ∀ l, l < 3 → ps_sh (bu_e m cl hd) (bu_e m cl hd) (bu_c m cl) (bu_c m cl) l n ∧ ∀ n' ∈ ps_nx (bu_e m cl hd) (bu_e m cl hd) (bu_c m cl) (bu_c m cl) l n, Ok (k + 1) n') ∧ (∀ S T, R0 S → R0 T → ∀ n ∈ bp_st S T, Ok 0 n) ∧ R0 (bu_T0 nr)
theorem mv_is_w {I : Nat → Int32} {A : Nat → Nat → Int32} {X : Nat → List Nat} {m : mv_T} {cl : Nat} (h : mv_is I A X m cl) : (∀ e, e < m.2.1.length → (mv_e m e).2.2.2.length ≤ 48) ∧ ∀ q, q < 6 → (ps_fin m q).length ≤ 48 := by
  have hw := h.2.2.2.2.2.2.2.2.2.2.2.2
  have h24 := h.2.2.2.2.1
  refine ⟨fun e he => ?_, fun q hq => ?_⟩
  · have := h.2.2.2.2.2.1 e he
    rw [← mv_e_get he] at this
    rw [← this.2.2.2.1]
    exact (hw e (by omega)).1
  · simp only [ps_fin]
    cases hf : m.2.2.1 q with
    | none => simp
    | some xs => rw [Option.getD_some, ← h.2.2.2.2.2.2.2.2.2.2.1 q hq xs hf]; exact (hw (24 + q) (by omega)).1
set_option maxRecDepth 100000 in
set_option maxHeartbeats 4000000 in
theorem c_Bld_build {w : rz_w} {d : Nat} {G : rz_G} {a : Nat} {I : Nat → Int32} {A : Nat → Nat → Int32} {J : Nat → Nat → Int64} {X : Nat → List Nat} {P : Nat → Nat} {Im : Nat → Int32} {Am : Nat → Nat → Int32} {Jm : Nat → Nat → Int64} {Xm : Nat → List Nat} {Pm : Nat → Nat} {Is : Nat → Int32} {As : Nat → Nat → Int32} {Js : Nat → Nat → Int64} {Xs : Nat → List Nat} {Ps : Nat → Nat} {Ip : Nat → Int32} {Ap : Nat → Nat → Int32} {Jp : Nat → Nat → Int64} {Xp : Nat → List Nat} {Pp : Nat → Nat} {as ap am : Nat} {b0 : Bool} {M1 : mc_S} {m : mv_T} {cl : Nat} {hd nr : Nat → List Nat} (h1 : mc_at' G am a 588 M1 m cl) (h3 : mv_w3 m) (has : as + 327 ≤ a ∨ a + 588 ≤ as) (hap : ap + 304 ≤ a ∨ a + 588 ≤ ap) (hsp : as + 327 ≤ ap ∨ ap + 304 ≤ as) (hms : am + 70 ≤ as ∨ as + 327 ≤ am) (hmp : am + 70 ≤ ap ∨ ap + 304 ≤ am)
    (hX : bl_xo X) (hXm : mc_ww Xm) (hXs : sm_xo Xs) (hXp : ps_xo Xp) (hP : P 0 = a + (76 + bk_a b0)) (hP1 : P 1 = a + (76 + bk_a (!b0))) (hh : ∀ q, q < 6 → X (3 + q) = hd q) (hnr : ∀ q, q < 6 → X (9 + q) = nr q) (hok : mv_al m cl ≠ 0 → bu_ok m cl hd nr) :
    rz_C w (d + 6) 0 0 y_Bld_build m_Bld_build [.ref a, .ref am, .ref as, .ref ap] (mc_put (bo_put (sm_put (ps_put G ap Ip Ap Jp Xp Pp) as Is As Js Xs Ps) a I A J X P) (a + 1) Im Am Jm Xm Pm) (fun r G' => r = some (.int (rz_b (bu_v m cl hd nr).isSome)) ∧ ∃ I A X P Im Am Xm Is As Xs Ip Ap Xp Pp b0, G' = (mc_put (bo_put (sm_put (ps_put G ap Ip Ap Jp Xp Pp) as Is As Js Xs Ps) a I A J X P) (a + 1) Im Am Jm Xm Pm) ∧ bl_xo X ∧ mc_ww Xm ∧ sm_xo Xs ∧ ps_xo Xp ∧ P 0 = a + (76 + bk_a b0) ∧ P 1 = a + (76 + bk_a (!b0)) ∧ ∀ v, bu_v m cl hd nr = some v → sv_is Is As Xs v) := by
  obtain ⟨-, hm1, hs1, ha1⟩ := id h1
  unfold mc_ap at ha1
  have hal := mv_al64 hm1
  have h1p : ∀ Is As Xs Ip Ap Xp Pp, mc_at' (sm_put (ps_put G ap Ip Ap Jp Xp Pp) as Is As Js Xs Ps) am a 588 M1 m cl := fun Is As Xs Ip Ap Xp Pp => ⟨mc_is_keep h1.1 (fun o ho => by rw [sm_out (by omega), ps_out (by omega)]), h1.2⟩
  have hmc : ∀ I A X P Im Am Xm Is As Xs Ip Ap Xp Pp, mc_is (mc_put (bo_put (sm_put (ps_put G ap Ip Ap Jp Xp Pp) as Is As Js Xs Ps) a I A J X P) (a + 1) Im Am Jm Xm Pm) am M1.1 M1.2.1 M1.2.2.1 M1.2.2.2.1 M1.2.2.2.2 := fun I A X P Im Am Xm Is As Xs Ip Ap Xp Pp => bl_mc (h1p Is As Xs Ip Ap Xp Pp)
  have ob : ∀ I A X P Im Am Xm Is As Xs Ip Ap Xp Pp, (mc_put (bo_put (sm_put (ps_put G ap Ip Ap Jp Xp Pp) as Is As Js Xs Ps) a I A J X P) (a + 1) Im Am Jm Xm Pm) am = some (.inr (2, mc_fs am M1.1 M1.2.2.2.2)) := fun I A X P Im Am Xm Is As Xs Ip Ap Xp Pp => hmc I A X P Im Am Xm Is As Xs Ip Ap Xp Pp 0 (by decide)
  have obs : ∀ I A X P Im Am Xm Is As Xs Ip Ap Xp Pp, (sm_put (mc_put (bo_put (ps_put G ap Ip Ap Jp Xp Pp) a I A J X P) (a + 1) Im Am Jm Xm Pm) as Is As Js Xs Ps) am = some (.inr (2, mc_fs am M1.1 M1.2.2.2.2)) := fun I A X P Im Am Xm Is As Xs Ip Ap Xp Pp => by rw [bl_sm has]; exact ob I A X P Im Am Xm Is As Xs Ip Ap Xp Pp
  have hso : ∀ I A X P Im Am Xm Is As Xs Ip Ap Xp Pp, (mc_put (bo_put (sm_put (ps_put G ap Ip Ap Jp Xp Pp) as Is As Js Xs Ps) a I A J X P) (a + 1) Im Am Jm Xm Pm) as = some (.inr (7, sm_fs as Is Ps)) := fun I A X P Im Am Xm Is As Xs Ip Ap Xp Pp => by rw [bl_out (by omega)]; exact sm_at0
  refine rz_enter' [some (.ref a), some (.ref am), some (.ref as), some (.ref ap), none, none] (by decide +kernel) rfl rfl (Nat.le_of_ble_eq_true rfl) rfl ?_
  rw [← bl_sm has]
  refine rz_blk' [(.aload_n 2, 1, 0, 0), (.iconst 0, 1, 0, 0), (.putfield 56, 3, 7, 0)] (by decide +kernel) (Nat.le_refl _) (Nat.le_refl _) (fun K R hK hR => ?_)
  simp only [List.length_cons, List.length_nil, Nat.reduceLT, rf_7_0, rw_c0, ↓rx_aload_n2, ↓rx_iconst, ↓rx_nil, ↓rx_putfield, ↓ry_lr0s, ↓ry_lr0z, ↓ry_obu, ↓ry_vr, true_and, ↓bl_ob, ↓bl_r71, ↓bl_i76, ↓bl_i77, ↓bl_i78, ↓bl_i79, ↓bl_r80, ↓bl_r81, ↓mc_ob, ↓mc_i1, ↓mc_n1, ↓mc_i2, ↓mc_n2, ↓mc_i3, ↓mc_n3, ↓mc_r4, ↓mc_r7, ↓mc_i8, ↓mc_n8, ↓mc_i9, ↓mc_n9, ↓sm_ob, ↓sm_i1, ↓sm_n1, ↓sm_r2, ↓sm_i3, ↓sm_n3, ↓sm_r4, sm_u0, rz_set, rz_nol, rz_clr, List.set_cons_zero, List.set_cons_succ, rz_tr, Nat.reduceAdd, Int.reduceAdd, Int.reduceToNat, Int.reduceSub, Int.reduceNeg, Int.cast_ofNat_Int]
  refine hK _ _ _ _ ?_
  generalize hIs2 : upd Is 0 _ = Is2
  refine rz_blk' [(.aload_n 2, 1, 0, 0), (.getfield 62, 3, 7, 5)] (by decide +kernel) (Nat.le_refl _) (Nat.le_refl _) (fun K R hK hR => ?_)
  simp only [↓rx_aload_n2, ↓rx_getfield, ↓rx_nil, ↓ry_fvs, ↓ry_fvz, ↓ry_lr0s, ↓ry_lr0z, ↓ry_obu, ↓ry_r1, ↓bl_ob, ↓bl_r71, ↓bl_i76, ↓bl_i77, ↓bl_i78, ↓bl_i79, ↓bl_r80, ↓bl_r81, ↓mc_ob, ↓mc_i1, ↓mc_n1, ↓mc_i2, ↓mc_n2, ↓mc_i3, ↓mc_n3, ↓mc_r4, ↓mc_r7, ↓mc_i8, ↓mc_n8, ↓mc_i9, ↓mc_n9, ↓sm_ob, ↓sm_i1, ↓sm_n1, ↓sm_r2, ↓sm_i3, ↓sm_n3, ↓sm_r4, rz_set, rz_nol, rz_clr, List.set_cons_zero, List.set_cons_succ, rz_tr, Nat.reduceAdd, Int.reduceAdd, Int.reduceToNat, Int.reduceSub, Int.reduceNeg, Int.cast_ofNat_Int]
  refine hK _ _ _ _ ?_
  refine rz_cV (As := []) (b := as + 5) (S := []) l_Bld_65 (by decide +kernel) rfl (sm_wi5 (hXs 0 (by decide))).1 rfl (Nat.le_of_ble_eq_true rfl) (Nat.le_refl _) (Nat.le_refl _) (c_Word_clear (sm_wi5 (hXs 0 (by decide)))) (fun r G' hr => ?_)
  obtain ⟨rfl, rfl⟩ := hr
  rw [sm_wp5]
  simp only [Option.toList, List.nil_append]
  have xs2 : sm_xo (va_up Xs 0 []) := fun j hj => by
    by_cases c : j = 0
    · subst c; rw [va_up_self]; exact wd_ok_nil (by decide)
    · rw [va_up_ne _ _ c]; exact hXs j hj
  have x20 : va_up Xs 0 [] 0 = [] := va_up_self _ _ _
  generalize hX2 : va_up Xs 0 [] = Xs2 at xs2 x20
  have is0 : Is2 0 = nI 0 := by rw [← hIs2, pk_us]
  have a4 : M1.1 4 = nI (mv_al m cl) := hs1.2.1
  refine rz_blk' [(.aload_n 1, 1, 0, 0), (.getfield 68, 3, 2, 10), (.ifCond .ne 10, 3, 0, 0)] (by decide +kernel) (Nat.le_refl _) (Nat.le_refl _) (fun K R hK hR => ?_)
  simp only [↓rx_aload_n1, ↓rx_getfield, ↓rx_ifCond_ne, ↓rx_nil, ↓ry_fvs, ↓ry_fvz, ↓ry_i1, ↓ry_lr0s, ↓ry_lr0z, ↓ry_obu, ↓ry_r1, ↓bl_ob, ↓bl_r71, ↓bl_i76, ↓bl_i77, ↓bl_i78, ↓bl_i79, ↓bl_r80, ↓bl_r81, ↓mc_ob, ↓mc_i1, ↓mc_n1, ↓mc_i2, ↓mc_n2, ↓mc_i3, ↓mc_n3, ↓mc_r4, ↓mc_r7, ↓mc_i8, ↓mc_n8, ↓mc_i9, ↓mc_n9, ↓sm_ob, ↓sm_i1, ↓sm_n1, ↓sm_r2, ↓sm_i3, ↓sm_n3, ↓sm_r4, ↓rh_ob (obs _ _ _ _ _ _ _ _ _ _ _ _ _ _), a4, rz_set, rz_nol, rz_clr, List.set_cons_zero, List.set_cons_succ, rz_tr, Nat.reduceAdd, Int.reduceAdd, Int.reduceToNat, Int.reduceSub, Int.reduceNeg, Int.cast_ofNat_Int]
  by_cases c0 : mv_al m cl = 0
  · rw [c0]
    refine ⟨fun z => absurd rfl z, fun _ => hK _ _ _ _ ?_⟩
    refine rz_blk' [(.aload_n 2, 1, 0, 0)] (by decide +kernel) (Nat.le_refl _) (Nat.le_refl _) (fun K R hK hR => ?_)
    simp only [↓rx_aload_n2, ↓rx_nil, ↓ry_lr0s, ↓ry_lr0z, ↓bl_ob, ↓bl_r71, ↓bl_i76, ↓bl_i77, ↓bl_i78, ↓bl_i79, ↓bl_r80, ↓bl_r81, ↓mc_ob, ↓mc_i1, ↓mc_n1, ↓mc_i2, ↓mc_n2, ↓mc_i3, ↓mc_n3, ↓mc_r4, ↓mc_r7, ↓mc_i8, ↓mc_n8, ↓mc_i9, ↓mc_n9, ↓sm_ob, ↓sm_i1, ↓sm_n1, ↓sm_r2, ↓sm_i3, ↓sm_n3, ↓sm_r4, rz_set, rz_nol, rz_clr, List.set_cons_zero, List.set_cons_succ, rz_tr, Nat.reduceAdd, Int.reduceAdd, Int.reduceToNat, Int.reduceSub, Int.reduceNeg, Int.cast_ofNat_Int]
    refine hK _ _ _ _ ?_
    refine rz_cV (As := []) (b := as) (S := []) l_Bld_71 (by decide +kernel) rfl sm_at0 rfl (Nat.le_of_ble_eq_true rfl) (Nat.le_refl _) (Nat.le_refl _) (c_Small_addState is0 (by decide) xs2) (fun r G' hr => ?_)
    obtain ⟨rfl, As3, Xs3, rfl, e1, e2, e3⟩ := hr
    simp only [Option.toList, List.cons_append, List.nil_append]
    refine rz_blk' [(.pop, 1, 0, 0), (.iconst 1, 1, 0, 0), (.ireturn, 1, 0, 0)] (by decide +kernel) (Nat.le_refl _) (Nat.le_refl _) (fun K R hK hR => ?_)
    simp only [rw_c1, ↓rx_iconst, ↓rx_ireturn, ↓rx_nil, ↓rx_pop, ↓ry_v1i, ↓ry_v1r, ↓bl_ob, ↓bl_r71, ↓bl_i76, ↓bl_i77, ↓bl_i78, ↓bl_i79, ↓bl_r80, ↓bl_r81, ↓mc_ob, ↓mc_i1, ↓mc_n1, ↓mc_i2, ↓mc_n2, ↓mc_i3, ↓mc_n3, ↓mc_r4, ↓mc_r7, ↓mc_i8, ↓mc_n8, ↓mc_i9, ↓mc_n9, ↓sm_ob, ↓sm_i1, ↓sm_n1, ↓sm_r2, ↓sm_i3, ↓sm_n3, ↓sm_r4, rz_set, rz_nol, rz_clr, List.set_cons_zero, List.set_cons_succ, rz_tr, Nat.reduceAdd, Int.reduceAdd, Int.reduceToNat, Int.reduceSub, Int.reduceNeg, Int.cast_ofNat_Int]
    have ev : bu_v m cl hd nr = some ([], [none], []) := by simp only [bu_v, if_pos c0]
    have xo3 : sm_xo Xs3 := fun j hj => by
      rw [e3]; split
      · exact wd_ok_nil (by decide)
      · exact xs2 j hj
    refine hR _ _ rz_nb_1 ⟨by rw [ev]; rfl, I, A, X, P, Im, Am, Xm, _, As3, Xs3, Ip, Ap, Xp, Pp, b0, bl_sm has, hX, hXm, xo3, hXp, hP, hP1, fun v hv => ?_⟩
    rw [ev] at hv
    cases hv
    refine ⟨by rw [pk_us]; rfl, by simp, xo3, ?_, fun i hi => ?_, fun i f hi => ?_⟩
    · rw [e3, if_neg (by omega)]; exact x20
    · have hi : i < 3 := by simpa using hi
      rw [e2, e3, if_pos (by omega), if_pos (by omega)]
      exact ⟨rfl, rfl⟩
    · cases i with
      | zero =>
        simp at hi
        subst hi
        rw [e1, e3, pk_us, if_pos (Or.inl rfl)]
        exact ⟨rfl, rfl⟩
      | succ i => simp at hi
  refine ⟨fun _ => hK _ _ _ _ ?_, fun z => absurd z (nI_ne0 (by omega) (by omega))⟩
  obtain ⟨⟨Inv, v1, v2, v3⟩, k1, k2, k3, k4, R0, Ok, r1, r2, r3, r4, r5⟩ := hok c0
  rw [bl_sm has]
  refine rz_blk' [(.aload_n 0, 1, 0, 0), (.aload_n 1, 1, 0, 0)] (by decide +kernel) (Nat.le_refl _) (Nat.le_refl _) (fun K R hK hR => ?_)
  simp only [↓rx_aload_n0, ↓rx_aload_n1, ↓rx_nil, ↓ry_lr0s, ↓ry_lr0z, ↓bl_ob, ↓bl_r71, ↓bl_i76, ↓bl_i77, ↓bl_i78, ↓bl_i79, ↓bl_r80, ↓bl_r81, ↓mc_ob, ↓mc_i1, ↓mc_n1, ↓mc_i2, ↓mc_n2, ↓mc_i3, ↓mc_n3, ↓mc_r4, ↓mc_r7, ↓mc_i8, ↓mc_n8, ↓mc_i9, ↓mc_n9, ↓sm_ob, ↓sm_i1, ↓sm_n1, ↓sm_r2, ↓sm_i3, ↓sm_n3, ↓sm_r4, rz_set, rz_nol, rz_clr, List.set_cons_zero, List.set_cons_succ, rz_tr, Nat.reduceAdd, Int.reduceAdd, Int.reduceToNat, Int.reduceSub, Int.reduceNeg, Int.cast_ofNat_Int]
  refine hK _ _ _ _ ?_
  refine rz_cV (As := [.ref am]) (b := a) (S := []) l_Bld_75 (by decide +kernel) rfl bl_at0 rfl (Nat.le_of_ble_eq_true rfl) (Nat.le_refl _) (Nat.le_refl _) (c_Bld_findHeads (d := d + 3) (h1p Is2 As Xs2 Ip Ap Xp Pp) h3 v1 v2 hX hh v3) (fun r G' hr => ?_)
  obtain ⟨rfl, I3, X3, rfl, hS, -, hkp⟩ := hr
  simp only [Option.toList, List.nil_append]
  change bh_st I3 X3 (bu_S m cl hd) at hS
  refine rz_blk' [(.aload_n 0, 1, 0, 0), (.aload_n 1, 1, 0, 0)] (by decide +kernel) (Nat.le_refl _) (Nat.le_refl _) (fun K R hK hR => ?_)
  simp only [↓rx_aload_n0, ↓rx_aload_n1, ↓rx_nil, ↓ry_lr0s, ↓ry_lr0z, ↓bl_ob, ↓bl_r71, ↓bl_i76, ↓bl_i77, ↓bl_i78, ↓bl_i79, ↓bl_r80, ↓bl_r81, ↓mc_ob, ↓mc_i1, ↓mc_n1, ↓mc_i2, ↓mc_n2, ↓mc_i3, ↓mc_n3, ↓mc_r4, ↓mc_r7, ↓mc_i8, ↓mc_n8, ↓mc_i9, ↓mc_n9, ↓sm_ob, ↓sm_i1, ↓sm_n1, ↓sm_r2, ↓sm_i3, ↓sm_n3, ↓sm_r4, rz_set, rz_nol, rz_clr, List.set_cons_zero, List.set_cons_succ, rz_tr, Nat.reduceAdd, Int.reduceAdd, Int.reduceToNat, Int.reduceSub, Int.reduceNeg, Int.cast_ofNat_Int]
  refine hK _ _ _ _ ?_
  refine rz_cV (As := [.ref am]) (b := a) (S := []) l_Bld_79 (by decide +kernel) rfl bl_at0 rfl (Nat.le_of_ble_eq_true rfl) (Nat.le_refl _) (Nat.le_refl _) (c_Bld_makeEarly (d := d + 2) (h1p Is2 As Xs2 Ip Ap Xp Pp) h3 hS hXm k1 k2 k3 k4) (fun r G' hr => ?_)
  obtain ⟨rfl, Im4, Am4, Xm4, rfl, hM, hMs⟩ := hr
  simp only [Option.toList, List.nil_append]
  change mv_is Im4 Am4 Xm4 (bu_e m cl hd) (bu_c m cl) at hM
  change mv_set Im4 Am4 (bu_e m cl hd) (bu_c m cl) at hMs
  refine rz_blk' [(.aload_n 0, 1, 0, 0)] (by decide +kernel) (Nat.le_refl _) (Nat.le_refl _) (fun K R hK hR => ?_)
  simp only [↓rx_aload_n0, ↓rx_nil, ↓ry_lr0s, ↓ry_lr0z, ↓bl_ob, ↓bl_r71, ↓bl_i76, ↓bl_i77, ↓bl_i78, ↓bl_i79, ↓bl_r80, ↓bl_r81, ↓mc_ob, ↓mc_i1, ↓mc_n1, ↓mc_i2, ↓mc_n2, ↓mc_i3, ↓mc_n3, ↓mc_r4, ↓mc_r7, ↓mc_i8, ↓mc_n8, ↓mc_i9, ↓mc_n9, ↓sm_ob, ↓sm_i1, ↓sm_n1, ↓sm_r2, ↓sm_i3, ↓sm_n3, ↓sm_r4, rz_set, rz_nol, rz_clr, List.set_cons_zero, List.set_cons_succ, rz_tr, Nat.reduceAdd, Int.reduceAdd, Int.reduceToNat, Int.reduceSub, Int.reduceNeg, Int.cast_ofNat_Int]
  refine hK _ _ _ _ ?_
  refine rz_cV (As := []) (b := a) (S := []) l_Bld_82 (by decide +kernel) rfl bl_at0 rfl (Nat.le_of_ble_eq_true rfl) (Nat.le_refl _) (Nat.le_refl _) (c_Bld_findKinds (d := d + 3) hM hMs hP hP1) (fun r G' hr => ?_)
  obtain ⟨rfl, A5, P5, b5, rfl, hk5, -⟩ := hr
  simp only [Option.toList, List.nil_append]
  have hxo3 := hS.2.2.2
  have hop : wd_is (mc_put (bo_put (sm_put (ps_put G ap Ip Ap Jp Xp Pp) as Is2 As Js Xs2 Ps) a I3 A5 J X3 P5) (a + 1) Im4 Am4 Jm Xm4 Pm) (a + 1 + 5) 3 (bu_e m cl hd).2.2.2 := by
    have := mc_wo (G := bo_put (sm_put (ps_put G ap Ip Ap Jp Xp Pp) as Is2 As Js Xs2 Ps) a I3 A5 J X3 P5) (a := a + 1) (I := Im4) (A := Am4) (J := Jm) (X := Xm4) (P := Pm) hM.2.2.2.2.2.2.2.2.2.2.2.2
    rw [hM.2.2.2.2.2.2.2.2.2.2.2.1] at this; exact this
  refine rz_blk' [(.aload_n 2, 1, 0, 0), (.getfield 62, 3, 7, 5), (.aload_n 0, 1, 0, 0), (.getfield 12, 3, 8, 0), (.getfield 85, 3, 2, 6)] (by decide +kernel) (Nat.le_refl _) (Nat.le_refl _) (fun K R hK hR => ?_)
  simp only [↓rx_aload_n0, ↓rx_aload_n2, ↓rx_getfield, ↓rx_nil, ↓ry_fvs, ↓ry_fvz, ↓ry_lr0s, ↓ry_lr0z, ↓ry_obu, ↓ry_r1, ↓bl_ob, ↓bl_r71, ↓bl_i76, ↓bl_i77, ↓bl_i78, ↓bl_i79, ↓bl_r80, ↓bl_r81, ↓mc_ob, ↓mc_i1, ↓mc_n1, ↓mc_i2, ↓mc_n2, ↓mc_i3, ↓mc_n3, ↓mc_r4, ↓mc_r7, ↓mc_i8, ↓mc_n8, ↓mc_i9, ↓mc_n9, ↓sm_ob, ↓sm_i1, ↓sm_n1, ↓sm_r2, ↓sm_i3, ↓sm_n3, ↓sm_r4, ↓rh_ob (hso _ _ _ _ _ _ _ _ _ _ _ _ _ _), rz_set, rz_nol, rz_clr, List.set_cons_zero, List.set_cons_succ, rz_tr, Nat.reduceAdd, Int.reduceAdd, Int.reduceToNat, Int.reduceSub, Int.reduceNeg, Int.cast_ofNat_Int]
  refine hK _ _ _ _ ?_
  rw [← bl_sm has] at hop ⊢
  refine rz_cV (As := [.ref (a + 1 + 5)]) (b := as + 5) (S := []) l_Bld_86 (by decide +kernel) rfl (sm_wi5 (xs2 0 (by decide))).1 rfl (Nat.le_of_ble_eq_true rfl) (Nat.le_refl _) (Nat.le_refl _) (c_Word_copy (sm_wi5 (xs2 0 (by decide))) hop (by omega)) (fun r G' hr => ?_)
  obtain ⟨rfl, rfl⟩ := hr
  have o48 := hop.2.2.1
  rw [sm_wp5, if_pos (by omega), bl_sm has]
  simp only [Option.toList, List.nil_append]
  have xs6 : sm_xo (va_up Xs2 0 (bu_e m cl hd).2.2.2) := fun j hj => by
    by_cases c : j = 0
    · subst c; rw [va_up_self]; exact ⟨by omega, hop.2.2.2.1, by decide⟩
    · rw [va_up_ne _ _ c]; exact xs2 j hj
  have x60 : va_up Xs2 0 (bu_e m cl hd).2.2.2 0 = (bu_e m cl hd).2.2.2 := va_up_self _ _ _
  generalize hX6 : va_up Xs2 0 (bu_e m cl hd).2.2.2 = Xs6 at xs6 x60
  refine rz_blk' [(.aload_n 0, 1, 0, 0), (.iconst 1, 1, 0, 0), (.putfield 90, 3, 8, 10)] (by decide +kernel) (Nat.le_refl _) (Nat.le_refl _) (fun K R hK hR => ?_)
  simp only [List.length_cons, List.length_nil, Nat.reduceLT, rf_8_10, rw_c1, ↓rx_aload_n0, ↓rx_iconst, ↓rx_nil, ↓rx_putfield, ↓ry_lr0s, ↓ry_lr0z, ↓ry_obu, ↓ry_vr, true_and, ↓bl_ob, ↓bl_r71, ↓bl_i76, ↓bl_i77, ↓bl_i78, ↓bl_i79, ↓bl_r80, ↓bl_r81, ↓mc_ob, ↓mc_i1, ↓mc_n1, ↓mc_i2, ↓mc_n2, ↓mc_i3, ↓mc_n3, ↓mc_r4, ↓mc_r7, ↓mc_i8, ↓mc_n8, ↓mc_i9, ↓mc_n9, ↓sm_ob, ↓sm_i1, ↓sm_n1, ↓sm_r2, ↓sm_i3, ↓sm_n3, ↓sm_r4, bl_u10, rz_set, rz_nol, rz_clr, List.set_cons_zero, List.set_cons_succ, rz_tr, Nat.reduceAdd, Int.reduceAdd, Int.reduceToNat, Int.reduceSub, Int.reduceNeg, Int.cast_ofNat_Int]
  refine hK _ _ _ _ ?_
  generalize hI7 : upd I3 1 _ = I7
  have i71 : I7 1 = nI 1 := by rw [← hI7, pk_us]
  refine rz_blk' [(.aload_n 0, 1, 0, 0), (.getfield 50, 3, 8, 11), (.iconst 0, 1, 0, 0), (.aaload, 1, 0, 0)] (by decide +kernel) (Nat.le_refl _) (Nat.le_refl _) (fun K R hK hR => ?_)
  simp only [Nat.reduceEqDiff, false_or, or_false, or_true, reduceIte, rw_c0, ↓rx_aaload, ↓rx_aload_n0, ↓rx_getfield, ↓rx_iconst, ↓rx_nil, ↓ry_fvs, ↓ry_fvz, ↓ry_lr0s, ↓ry_lr0z, ↓ry_obu, ↓ry_r1, ↓ry_ri, true_and, true_or, ↓bl_ob, ↓bl_r71, ↓bl_i76, ↓bl_i77, ↓bl_i78, ↓bl_i79, ↓bl_r80, ↓bl_r81, ↓mc_ob, ↓mc_i1, ↓mc_n1, ↓mc_i2, ↓mc_n2, ↓mc_i3, ↓mc_n3, ↓mc_r4, ↓mc_r7, ↓mc_i8, ↓mc_n8, ↓mc_i9, ↓mc_n9, ↓sm_ob, ↓sm_i1, ↓sm_n1, ↓sm_r2, ↓sm_i3, ↓sm_n3, ↓sm_r4, va_rfs, rz_set, rz_nol, rz_clr, List.set_cons_zero, List.set_cons_succ, rz_tr, Nat.reduceAdd, Int.reduceAdd, Int.reduceToNat, Int.reduceSub, Int.reduceNeg, Int.cast_ofNat_Int]
  refine ⟨vp_in_nI (by decide) (by decide), hK _ _ _ _ ?_⟩
  refine rz_cV (As := []) (b := a + 86) (S := []) l_Bld_65 (by decide +kernel) rfl (bl_wi86 (hxo3.2.2.2.1 0 (by decide))).1 rfl (Nat.le_of_ble_eq_true rfl) (Nat.le_refl _) (Nat.le_refl _) (c_Word_clear (bl_wi86 (hxo3.2.2.2.1 0 (by decide)))) (fun r G' hr => ?_)
  obtain ⟨rfl, rfl⟩ := hr
  rw [bl_wp86]
  simp only [Option.toList, List.nil_append]
  have hxo7 : bl_xo (va_up X3 9 []) := bl_xo_up hxo3 (Or.inr ⟨Or.inr (by decide), wd_ok_nil (by decide)⟩)
  have hnr7 : ∀ q, q < 6 → va_up X3 9 [] (9 + q) = va_up nr 0 [] q := fun q hq => by
    by_cases c : q = 0
    · subst c; rw [va_up_self, va_up_self]
    · rw [va_up_ne _ _ (by omega), va_up_ne _ _ c, hkp.2.2 _ (by omega)]; exact hnr q hq
  have hT0 : bf_st I7 (va_up X3 9 []) (bu_T0 nr) := ⟨i71, (by decide : 1 < 64), hnr7, hxo7⟩
  generalize va_up X3 9 [] = X7 at *
  obtain ⟨hw, hwf⟩ := mv_is_w hM
  refine rz_blk' [(.aload_n 0, 1, 0, 0), (.aload_n 2, 1, 0, 0)] (by decide +kernel) (Nat.le_refl _) (Nat.le_refl _) (fun K R hK hR => ?_)
  simp only [↓rx_aload_n0, ↓rx_aload_n2, ↓rx_nil, ↓ry_lr0s, ↓ry_lr0z, ↓bl_ob, ↓bl_r71, ↓bl_i76, ↓bl_i77, ↓bl_i78, ↓bl_i79, ↓bl_r80, ↓bl_r81, ↓mc_ob, ↓mc_i1, ↓mc_n1, ↓mc_i2, ↓mc_n2, ↓mc_i3, ↓mc_n3, ↓mc_r4, ↓mc_r7, ↓mc_i8, ↓mc_n8, ↓mc_i9, ↓mc_n9, ↓sm_ob, ↓sm_i1, ↓sm_n1, ↓sm_r2, ↓sm_i3, ↓sm_n3, ↓sm_r4, rz_set, rz_nol, rz_clr, List.set_cons_zero, List.set_cons_succ, rz_tr, Nat.reduceAdd, Int.reduceAdd, Int.reduceToNat, Int.reduceSub, Int.reduceNeg, Int.cast_ofNat_Int]
  refine hK _ _ _ _ ?_
  rw [← bl_sm has]
  refine rz_cV (As := [.ref as]) (b := a) (S := []) l_Bld_93 (by decide +kernel) rfl (by rw [sm_out (by omega)]; exact bl_at0) rfl (Nat.le_of_ble_eq_true rfl) (Nat.le_refl _) (Nat.le_refl _) (c_Bld_addSet (d := d + 3) (TS := []) hM hMs has (fun q hq hb => by have := r2 _ r5 q hq hb; have := hwf q hq; omega) hT0 ⟨by simp, fun i S hi => by simp at hi⟩ is0 xs6) (fun r G' hr => ?_)
  rcases hr with ⟨a1, -⟩ | ⟨a1, rfl, A8, X8, As8, Xs8, rfl, n1, n2, n3, n4, n5, n6, n7, n8⟩
  · simp at a1
  rw [bl_sm has]
  simp only [Option.toList, List.cons_append, List.nil_append]
  refine rz_blk' [(.pop, 1, 0, 0), (.iconst 0, 1, 0, 0), (.istore 4, 2, 0, 0)] (by decide +kernel) (Nat.le_refl _) (Nat.le_refl _) (fun K R hK hR => ?_)
  simp only [rw_c0, ↓rx_iconst, ↓rx_istore, ↓rx_nil, ↓rx_pop, ↓ry_i1, ↓ry_v1i, ↓ry_v1r, ↓bl_ob, ↓bl_r71, ↓bl_i76, ↓bl_i77, ↓bl_i78, ↓bl_i79, ↓bl_r80, ↓bl_r81, ↓mc_ob, ↓mc_i1, ↓mc_n1, ↓mc_i2, ↓mc_n2, ↓mc_i3, ↓mc_n3, ↓mc_r4, ↓mc_r7, ↓mc_i8, ↓mc_n8, ↓mc_i9, ↓mc_n9, ↓sm_ob, ↓sm_i1, ↓sm_n1, ↓sm_r2, ↓sm_i3, ↓sm_n3, ↓sm_r4, rz_set, rz_nol, rz_clr, List.set_cons_zero, List.set_cons_succ, rz_tr, Nat.reduceAdd, Int.reduceAdd, Int.reduceToNat, Int.reduceSub, Int.reduceNeg, Int.cast_ofNat_Int]
  refine hK _ _ _ _ ?_
  refine bb_l (b := b5) (kd := bk_kd (bu_e m cl hd) (bu_c m cl)) (af := bk_af (bu_e m cl hd) (bu_c m cl)) (op := (bu_e m cl hd).2.2.2) hM hMs has hap hsp r1 r2 hw hwf r3 r4 120 ([bu_T0 nr], va_up nr 0 [], []) I7 A8 X8 _ As8 Xs8 Ip Ap Xp Pp _ rfl ⟨n1, n2.2.2.2, n2.2.2.1, bk_keep hk5 n3⟩ ⟨?_, n5, ?_, ?_, fun i hi => ?_, fun i S' hi => ?_⟩ hXp ?_ ?_ ?_
  · rw [pk_us]; rfl
  · rw [n8, if_neg (by simp), if_neg (by simp)]; exact x60
  · simp
  · have hi : i < 3 := by simpa using hi
    rw [n6, n8, if_pos (by simp; omega), if_neg (by simp; omega), if_pos (by simp; omega)]
    exact ⟨rfl, rfl⟩
  · cases i with
    | zero =>
      simp at hi
      subst hi
      rw [n7, n8]
      exact ⟨pk_us, if_pos rfl⟩
    | succ i => simp at hi
  · intro S' hS'
    rw [List.mem_singleton] at hS'
    rw [hS']; exact r5
  · intro U' I A X Is As Xs Ip Ap Xp Pp L hg e1 e2 e3
    refine rz_blk' [(.iconst 1, 1, 0, 0), (.ireturn, 1, 0, 0)] (by decide +kernel) (Nat.le_refl _) (Nat.le_refl _) (fun K R hK hR => ?_)
    simp only [rw_c1, ↓rx_iconst, ↓rx_ireturn, ↓rx_nil, ↓bl_ob, ↓bl_r71, ↓bl_i76, ↓bl_i77, ↓bl_i78, ↓bl_i79, ↓bl_r80, ↓bl_r81, ↓mc_ob, ↓mc_i1, ↓mc_n1, ↓mc_i2, ↓mc_n2, ↓mc_i3, ↓mc_n3, ↓mc_r4, ↓mc_r7, ↓mc_i8, ↓mc_n8, ↓mc_i9, ↓mc_n9, ↓sm_ob, ↓sm_i1, ↓sm_n1, ↓sm_r2, ↓sm_i3, ↓sm_n3, ↓sm_r4, rz_set, rz_nol, rz_clr, List.set_cons_zero, List.set_cons_succ, rz_tr, Nat.reduceAdd, Int.reduceAdd, Int.reduceToNat, Int.reduceSub, Int.reduceNeg, Int.cast_ofNat_Int]
    have ev : bu_v m cl hd nr = some ((bu_e m cl hd).2.2.2, U'.1.map (ad_fw (bu_e m cl hd) (bu_c m cl)), U'.2.2) := by
      simp only [bu_v, if_neg c0, bu_g, hg, Option.map_some]
    refine hR _ _ rz_nb_1 ⟨by rw [ev]; rfl, I, A, X, P5, Im4, Am4, Xm4, Is, As, Xs, Ip, Ap, Xp, Pp, b5, rfl, e1.2.1, hM.2.2.2.2.2.2.2.2.2.2.2.2, e2.2.1, e3, hk5.1, hk5.2.1, fun v hv => ?_⟩
    rw [ev] at hv
    cases hv
    refine ⟨by rw [e2.1]; simp, by simp; exact e1.1.1, e2.2.1, e2.2.2.1, fun i hi => e2.2.2.2.2.1 i (by simpa using hi), fun i f hi => ?_⟩
    rw [List.getElem?_map] at hi
    cases hu : U'.1[i]? with
    | none => rw [hu] at hi; cases hi
    | some S' =>
      rw [hu] at hi
      cases hi
      exact e2.2.2.2.2.2 i S' hu
  · intro I A X Is As Xs Ip Ap Xp Pp hg e1 e2 e3 e4
    have ev : bu_v m cl hd nr = none := by
      simp only [bu_v, if_neg c0, bu_g, hg, Option.map_none]
    exact ⟨by rw [ev]; rfl, I, A, X, P5, Im4, Am4, Xm4, Is, As, Xs, Ip, Ap, Xp, Pp, b5, rfl, e1, hM.2.2.2.2.2.2.2.2.2.2.2.2, e3, e4, hk5.1, hk5.2.1, fun v hv => by rw [ev] at hv; cases hv⟩

