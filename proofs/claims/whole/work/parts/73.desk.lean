/-! WriterDesk: smallest -/
def dk_sp (z : Nat) (sw : Bool) : Nat := z + (if sw then 928 else 1255)
theorem dk_sp2 (z : Nat) (sw : Bool) : (sw = true ∧ dk_sp z sw = z + 928) ∨ (sw = false ∧ dk_sp z sw = z + 1255) := by cases sw <;> simp [dk_sp]
theorem bl_is_put {G : rz_G} {a : Nat} {I : Nat → Int32} {A : Nat → Nat → Int32} {J : Nat → Nat → Int64} {X : Nat → List Nat} {P : Nat → Nat} {Im : Nat → Int32} {Am : Nat → Nat → Int32} {Jm : Nat → Nat → Int64} {Xm : Nat → List Nat} {Pm : Nat → Nat} : bl_is (mc_put (bo_put G a I A J X P) (a + 1) Im Am Jm Xm Pm) a I A J X P Im Am Jm Xm Pm := by
  funext x
  by_cases c : a + 1 ≤ x ∧ x < a + 1 + 70
  · simp only [mc_put]; rw [if_pos c, if_pos c]
  · have e1 : ∀ H : rz_G, mc_put H (a + 1) Im Am Jm Xm Pm x = H x := fun H => by simp only [mc_put]; rw [if_neg c]
    rw [e1, e1]
    by_cases c2 : a ≤ x ∧ x < a + 588
    · simp only [bo_put]; rw [if_pos c2, if_pos c2]
    · have e2 : ∀ H : rz_G, bo_put H a I A J X P x = H x := fun H => by simp only [bo_put]; rw [if_neg c2]
      rw [e2, e1, e2]
/-- the desk behind a build -/
theorem dk_bld {V : dk_V} {G : rz_G} {z : Nat} {b : Bool} {I : Nat → Int32} {A : Nat → Nat → Int32} {J : Nat → Nat → Int64} {X : Nat → List Nat} {P : Nat → Nat} {Im : Nat → Int32} {Am : Nat → Nat → Int32} {Jm : Nat → Nat → Int64} {Xm : Nat → List Nat} {Pm : Nat → Nat} {Is : Nat → Int32} {As : Nat → Nat → Int32} {Js : Nat → Nat → Int64} {Xs : Nat → List Nat} {Ps : Nat → Nat} {Ip : Nat → Int32} {Ap : Nat → Nat → Int32} {Jp : Nat → Nat → Int64} {Xp : Nat → List Nat} {Pp : Nat → Nat} (h : dk G z V) (hX : bl_xo X) (hXm : mc_ww Xm) (hXs : sm_xo Xs) (hXp : ps_xo Xp) (hP : P 0 = z + 340 + (76 + bk_a b)) (hP1 : P 1 = z + 340 + (76 + bk_a (!b))) :
    (dk (mc_put (bo_put (sm_put (ps_put G (z + 18) Ip Ap Jp Xp Pp) (dk_sp z V.2.2.2) Is As Js Xs Ps) (z + 340) I A J X P) (z + 340 + 1) Im Am Jm Xm Pm) z V ∧ dk_fr z G (mc_put (bo_put (sm_put (ps_put G (z + 18) Ip Ap Jp Xp Pp) (dk_sp z V.2.2.2) Is As Js Xs Ps) (z + 340) I A J X P) (z + 340 + 1) Im Am Jm Xm Pm)) ∧ sm_is (mc_put (bo_put (sm_put (ps_put G (z + 18) Ip Ap Jp Xp Pp) (dk_sp z V.2.2.2) Is As Js Xs Ps) (z + 340) I A J X P) (z + 340 + 1) Im Am Jm Xm Pm) (dk_sp z V.2.2.2) Is As Js Xs Ps := by
  have h1 := dk_upp (I := Ip) (A := Ap) (J := Jp) (X := Xp) (P := Pp) h hXp
  generalize ps_put G (z + 18) Ip Ap Jp Xp Pp = G1 at *
  have hsp := dk_sp2 z V.2.2.2
  have h2 : dk (sm_put G1 (dk_sp z V.2.2.2) Is As Js Xs Ps) z V ∧ dk_fr z G1 (sm_put G1 (dk_sp z V.2.2.2) Is As Js Xs Ps) := by
    rcases hsp with ⟨e1, e2⟩ | ⟨e1, e2⟩
    · rw [e2]
      refine dk_mod' h1.1.1 8 (by decide) (fun x hx => sm_out hx) ⟨Is, As, Js, Xs, Ps, fun o ho => sm_at ho, hXs, fun u hu => ?_⟩
      rw [e1] at hu; cases hu
    · rw [e2]
      refine dk_mod' h1.1.1 9 (by decide) (fun x hx => sm_out hx) ⟨Is, As, Js, Xs, Ps, fun o ho => sm_at ho, hXs, fun u hu => ?_⟩
      rw [e1] at hu; cases hu
  have h3 : sm_is (sm_put G1 (dk_sp z V.2.2.2) Is As Js Xs Ps) (dk_sp z V.2.2.2) Is As Js Xs Ps := fun o ho => sm_at ho
  have f2 := h1.1.2.trans h2.2
  have h2 := h2.1
  generalize sm_put G1 (dk_sp z V.2.2.2) Is As Js Xs Ps = G2 at *
  have h4 : dk (mc_put (bo_put G2 (z + 340) I A J X P) (z + 340 + 1) Im Am Jm Xm Pm) z V ∧ dk_fr z G2 (mc_put (bo_put G2 (z + 340) I A J X P) (z + 340 + 1) Im Am Jm Xm Pm) :=
    dk_mod' h2 7 (by decide) (fun x hx => bl_out hx) ⟨I, A, J, X, P, Im, Am, Jm, Xm, Pm, b, bl_is_put, hX, hXm, hP, hP1⟩
  refine ⟨⟨h4.1, f2.trans h4.2⟩, fun o ho => ?_⟩
  rw [bl_out (by omega)]; exact h3 o ho
theorem dk_spare {V : dk_V} {G : rz_G} {z : Nat} (h : dk G z V) : ∃ (I : Nat → Int32) (A : Nat → Nat → Int32) (J : Nat → Nat → Int64) (X : Nat → List Nat) (P : Nat → Nat), sm_is G (dk_sp z V.2.2.2) I A J X P ∧ sm_xo X := by
  rcases dk_sp2 z V.2.2.2 with ⟨e1, e2⟩ | ⟨e1, e2⟩
  · obtain ⟨I, A, J, X, P, h1, h2, -⟩ := h 8 (by decide)
    exact ⟨I, A, J, X, P, by rw [e2]; exact h1, h2⟩
  · obtain ⟨I, A, J, X, P, h1, h2, -⟩ := h 9 (by decide)
    exact ⟨I, A, J, X, P, by rw [e2]; exact h1, h2⟩
/-- made and spare change places -/
theorem dk_swap {V : dk_V} {G : rz_G} {z : Nat} {v : sv_T} {I : Nat → Int32} {A : Nat → Nat → Int32} {J : Nat → Nat → Int64} {X : Nat → List Nat} {P : Nat → Nat} (h : dk G z V) (hs : sm_is G (dk_sp z V.2.2.2) I A J X P) (hX : sm_xo X) (hv : sv_is I A X v) : dk (rz_up G z (.inr (9, dk_fs z (!V.2.2.2)))) z (V.1, V.2.1, v, !V.2.2.2) ∧ dk_fr z G (rz_up G z (.inr (9, dk_fs z (!V.2.2.2)))) := by
  refine ⟨fun j hj => ?_, fun x hx => rz_up_n _ _ (by omega)⟩
  by_cases c0 : j = 0
  · subst c0
    exact ⟨rz_up_s _ _ _, by rw [rz_up_n _ _ (by omega)]; exact (h 0 (by decide)).2⟩
  refine dk_loc j hj (G := G) (fun x h1 h2 => rz_up_n _ _ ?_) ?_
  · have := dk_apart j hj 0 (by decide) c0
    have e : dk_lo 0 + dk_n 0 = 2 ∧ dk_lo 0 = 0 := by decide
    omega
  · have hsp := dk_sp2 z V.2.2.2
    match j, hj, c0 with
    | 0, _, c => exact absurd rfl c
    | 1, _, _ => exact h 1 (by decide)
    | 2, _, _ => exact h 2 (by decide)
    | 3, _, _ => exact h 3 (by decide)
    | 4, _, _ => exact h 4 (by decide)
    | 5, _, _ => exact h 5 (by decide)
    | 6, _, _ => exact h 6 (by decide)
    | 7, _, _ => exact h 7 (by decide)
    | 8, _, _ =>
      show dk_sm G (z + 928) (if (!V.2.2.2) = true then none else some v)
      rcases hsp with ⟨e1, e2⟩ | ⟨e1, e2⟩
      · rw [e2] at hs
        exact ⟨I, A, J, X, P, hs, hX, fun u hu => by rw [e1] at hu; cases hu; exact hv⟩
      · obtain ⟨I, A, J, X, P, q1, q2, -⟩ := h 8 (by decide)
        exact ⟨I, A, J, X, P, q1, q2, fun u hu => by rw [e1] at hu; cases hu⟩
    | 9, _, _ =>
      show dk_sm G (z + 1255) (if (!V.2.2.2) = true then some v else none)
      rcases hsp with ⟨e1, e2⟩ | ⟨e1, e2⟩
      · obtain ⟨I, A, J, X, P, q1, q2, -⟩ := h 9 (by decide)
        exact ⟨I, A, J, X, P, q1, q2, fun u hu => by rw [e1] at hu; cases hu⟩
      · rw [e2] at hs
        exact ⟨I, A, J, X, P, hs, hX, fun u hu => by rw [e1] at hu; cases hu; exact hv⟩
    | j + 10, hj, _ => exact h (j + 10) hj

set_option maxRecDepth 100000 in
set_option maxHeartbeats 4000000 in
theorem c_Desk_smallest {w : rz_w} {d : Nat} {G : rz_G} {z : Nat} {V : dk_V} (h : dk G z V) (x : Int32) (hv : ∀ k, k < 6 → rs_ver (V.1 k) (mk_cl (V.1 k)) ≤ 2) (hbu : ∀ k, k < 6 → (df_S (V.1 k) (V.1 k)).2.2 = none → rs_ver (V.1 k) (mk_cl (V.1 k)) = 0 → mv_al (V.1 k) (mk_cl (V.1 k)) ≠ 0 → ∀ hd nr, bu_ok (V.1 k) (mk_cl (V.1 k)) hd nr) : ru_C w (d + 9) 1 6 y_Desk_smallest m_Desk_smallest [.ref z, .int x] G (ru_V V z G (fun r V' => ∃ k hd nr v, k < 6 ∧ x = nI k ∧ (df_S (V.1 k) (V.1 k)).2.2 = none ∧ rs_ver (V.1 k) (mk_cl (V.1 k)) = 0 ∧ bu_v (V.1 k) (mk_cl (V.1 k)) hd nr = some v ∧ r = some (.int (nI v.2.1.length)) ∧ V' = (V.1, V.2.1, v, !V.2.2.2)) (fun c => (c = 0 ∧ dk_no x) ∨ ∃ k, k < 6 ∧ x = nI k ∧ ((c = 3 ∧ ((df_S (V.1 k) (V.1 k)).2.2 ≠ none ∨ rs_ver (V.1 k) (mk_cl (V.1 k)) = 1)) ∨ (c = 2 ∧ (df_S (V.1 k) (V.1 k)).2.2 = none ∧ (rs_ver (V.1 k) (mk_cl (V.1 k)) = 2 ∨ (rs_ver (V.1 k) (mk_cl (V.1 k)) = 0 ∧ ∃ hd nr, bu_v (V.1 k) (mk_cl (V.1 k)) hd nr = none)))))) := by
  obtain ⟨hob, hma⟩ := h 0 (by decide)
  refine ru_enter [some (.ref z), some (.int x), none, none, none] rfl (by decide +kernel) rfl rfl (Nat.le_of_ble_eq_true rfl) rfl ?_
  refine ru_blk' [(.aload_n 0, 1, 0, 0), (.iload_n 1, 1, 0, 0)] (by decide +kernel) (Nat.zero_le _) (Nat.zero_le _) (fun K R hK hR => ?_)
  simp only [↓rx_aload_n0, ↓rx_iload_n1, ↓rx_nil, ↓ry_li0s, ↓ry_li0z, ↓ry_lr0s, ↓ry_lr0z, rz_set, rz_nol, rz_clr, List.set_cons_zero, List.set_cons_succ, rz_tr, Nat.reduceAdd, Int.reduceAdd, Int.reduceToNat, Int.reduceSub, Int.reduceNeg, Int.cast_ofNat_Int]
  refine hK _ _ _ _ ?_
  refine ru_cV2 (As := [.int x]) (b := z) (S := []) l_Desk_73 (by decide +kernel) rfl hob rfl (Nat.le_of_ble_eq_true rfl) rfl rfl (Nat.le_refl _) (Nat.le_refl _) (c_Desk_machineOf h x) (fun c G' hc => by obtain ⟨⟨rfl, rfl⟩, hn⟩ := hc; exact ⟨Or.inl ⟨rfl, hn⟩, h, dk_fr.rf⟩) (fun r G' hr => ?_)
  obtain ⟨hg, k, hk, hkx, rfl⟩ := hr
  have hg := hg.symm
  subst hg
  simp only [Option.toList, List.cons_append, List.nil_append]
  obtain ⟨S, hmc, hm, hs, h3⟩ := dk_m h hk
  have hmo := mc_c hmc
  refine ru_blk' [(.astore_n 2, 1, 0, 0)] (by decide +kernel) (Nat.zero_le _) (Nat.zero_le _) (fun K R hK hR => ?_)
  simp only [↓rx_astore_n2, ↓rx_nil, ↓ry_r1, rz_set, rz_nol, rz_clr, List.set_cons_zero, List.set_cons_succ, rz_tr, Nat.reduceAdd, Int.reduceAdd, Int.reduceToNat, Int.reduceSub, Int.reduceNeg, Int.cast_ofNat_Int]
  refine hK _ _ _ _ ?_
  refine ru_blk' [(.aload_n 0, 1, 0, 0), (.aload_n 2, 1, 0, 0)] (by decide +kernel) (Nat.zero_le _) (Nat.zero_le _) (fun K R hK hR => ?_)
  simp only [↓rx_aload_n0, ↓rx_aload_n2, ↓rx_nil, ↓ry_lr0s, ↓ry_lr0z, rz_set, rz_nol, rz_clr, List.set_cons_zero, List.set_cons_succ, rz_tr, Nat.reduceAdd, Int.reduceAdd, Int.reduceToNat, Int.reduceSub, Int.reduceNeg, Int.cast_ofNat_Int]
  refine hK _ _ _ _ ?_
  refine ru_cV (As := [.ref (z + (1582 + 70 * k))]) (b := z) (S := []) l_Desk_145 (by decide +kernel) rfl hob rfl (Nat.le_of_ble_eq_true rfl) (Nat.zero_le _) (Nat.zero_le _) (c_Desk_hasOneOutputEach (d := d + 2) h hk) (fun r G' hr => ?_)
  obtain ⟨rfl, hd1, hs1, hp1⟩ := hr
  simp only [Option.toList, List.cons_append, List.nil_append]
  have hob1 := (hd1.1 0 (by decide)).1
  by_cases hf : (df_S (V.1 k) (V.1 k)).2.2 = none
  rotate_left
  · have hb : (!(df_S (V.1 k) (V.1 k)).2.2.isSome) = false := by
      cases q : (df_S (V.1 k) (V.1 k)).2.2 with
      | none => exact absurd q hf
      | some g => rfl
    rw [hb]
    refine ru_blk' [(.ifCond .ne 11, 3, 0, 0)] (by decide +kernel) (Nat.zero_le _) (Nat.zero_le _) (fun K R hK hR => ?_)
    simp only [↓rx_ifCond_ne, ↓rx_nil, ↓ry_i1, rz_set, rz_nol, rz_clr, List.set_cons_zero, List.set_cons_succ, rz_tr, Nat.reduceAdd, Int.reduceAdd, Int.reduceToNat, Int.reduceSub, Int.reduceNeg, Int.cast_ofNat_Int]
    refine ⟨fun q => absurd rfl q, fun _ => hK _ _ _ _ ?_⟩
    exact ru_throw (c := 3) (by decide) rfl rfl (by decide +kernel) (by decide +kernel) (by decide +kernel) (by decide +kernel) (Nat.le_of_ble_eq_true rfl) (Nat.le_refl _) (Nat.le_refl _) ⟨Or.inr ⟨k, hk, hkx, Or.inl ⟨rfl, Or.inl hf⟩⟩, hd1.1, hd1.2⟩
  have hb : (!(df_S (V.1 k) (V.1 k)).2.2.isSome) = true := by rw [hf]; rfl
  rw [hb]
  refine ru_blk' [(.ifCond .ne 11, 3, 0, 0)] (by decide +kernel) (Nat.zero_le _) (Nat.zero_le _) (fun K R hK hR => ?_)
  simp only [↓rx_ifCond_ne, ↓rx_nil, ↓ry_i1, rz_set, rz_nol, rz_clr, List.set_cons_zero, List.set_cons_succ, rz_tr, Nat.reduceAdd, Int.reduceAdd, Int.reduceToNat, Int.reduceSub, Int.reduceNeg, Int.cast_ofNat_Int]
  refine ⟨fun _ => hK _ _ _ _ ?_, fun q => absurd q (by decide)⟩
  obtain ⟨S1, c1, m1, s1, w1⟩ := id hs1.1
  obtain ⟨I6, A6, J6, X6, v6, bd6, S6, r6, t6, x6⟩ := hd1.1 6 (by decide)
  refine ru_blk' [(.aload_n 0, 1, 0, 0), (.getfield 51, 3, 9, 6), (.aload_n 2, 1, 0, 0)] (by decide +kernel) (Nat.zero_le _) (Nat.zero_le _) (fun K R hK hR => ?_)
  simp only [↓rx_aload_n0, ↓rx_aload_n2, ↓rx_getfield, ↓rx_nil, ↓ry_fvs, ↓ry_fvz, ↓ry_lr0s, ↓ry_lr0z, ↓ry_obu, ↓ry_r1, ↓rh_ob hob1, dk_fs, rz_set, rz_nol, rz_clr, List.set_cons_zero, List.set_cons_succ, rz_tr, Nat.reduceAdd, Int.reduceAdd, Int.reduceToNat, Int.reduceSub, Int.reduceNeg, Int.cast_ofNat_Int]
  refine hK _ _ _ _ ?_
  have hcv := c_Res_verdictOn0 (w := w) (d := d + 2) (am := z + (1582 + 70 * k)) (M1 := S1) (m := V.1 k) (cl := mk_cl (V.1 k)) r6 ⟨c1, m1, s1, by unfold mc_ap; omega⟩ w1 t6 x6
  refine ru_cV (As := [.ref (z + (1582 + 70 * k))]) (b := z + 327) (S := []) l_Desk_174 (by decide +kernel) rfl r6.2 rfl (Nat.le_of_ble_eq_true rfl) (Nat.zero_le _) (Nat.zero_le _) (hcv) (fun r G' hr => ?_)
  obtain ⟨rfl, I7, A7, J7, X7, S7, rfl, x7, t7⟩ := hr
  simp only [Option.toList, List.cons_append, List.nil_append]
  have hp2 : dk_pf (rs_put G' (z + 327) I7 A7 J7 X7 (va_up (fun _ => 0) 0 (z + (1582 + 70 * k)))) z (df_S (V.1 k) (V.1 k)) := dk_pf_keep hp1 (fun x h1 h2 => rs_out (by omega))
  have hu := dk_uprs (P := va_up (fun _ => 0) 0 (z + (1582 + 70 * k))) hd1.1 t7 x7
  generalize rs_put G' (z + 327) I7 A7 J7 X7 (va_up (fun _ => 0) 0 (z + (1582 + 70 * k))) = G2 at *
  have hv2 := hv k hk
  generalize hvr : rs_ver (V.1 k) (mk_cl (V.1 k)) = vr at *
  refine ru_blk' [(.istore_n 3, 1, 0, 0)] (by decide +kernel) (Nat.zero_le _) (Nat.zero_le _) (fun K R hK hR => ?_)
  simp only [↓rx_istore_n3, ↓rx_nil, ↓ry_i1, rz_set, rz_nol, rz_clr, List.set_cons_zero, List.set_cons_succ, rz_tr, Nat.reduceAdd, Int.reduceAdd, Int.reduceToNat, Int.reduceSub, Int.reduceNeg, Int.cast_ofNat_Int]
  refine hK _ _ _ _ ?_
  have hfr2 := hd1.2.trans hu.1.2
  have st2 := hu.2 k hs1.1
  have hd2 := hu.1.1
  have hob2 := (hd2 0 (by decide)).1
  refine ru_blk' [(.iload_n 3, 1, 0, 0), (.iconst 1, 1, 0, 0), (.if_icmp .ne 11, 3, 0, 0)] (by decide +kernel) (Nat.zero_le _) (Nat.zero_le _) (fun K R hK hR => ?_)
  simp only [rw_c1, ↓rx_iconst, ↓rx_if_icmp_ne, ↓rx_iload_n3, ↓rx_nil, ↓ry_i2, ↓ry_li0s, ↓ry_li0z, rz_set, rz_nol, rz_clr, List.set_cons_zero, List.set_cons_succ, rz_tr, Nat.reduceAdd, Int.reduceAdd, Int.reduceToNat, Int.reduceSub, Int.reduceNeg, Int.cast_ofNat_Int]
  by_cases c1 : vr = 1
  · subst c1
    refine ⟨fun q => absurd rfl q, fun _ => hK _ _ _ _ ?_⟩
    exact ru_throw (c := 3) (by decide) rfl rfl (by decide +kernel) (by decide +kernel) (by decide +kernel) (by decide +kernel) (Nat.le_of_ble_eq_true rfl) (Nat.le_refl _) (Nat.le_refl _) ⟨Or.inr ⟨k, hk, hkx, Or.inl ⟨rfl, Or.inr hvr⟩⟩, hd2, hfr2⟩
  refine ⟨fun _ => hK _ _ _ _ ?_, fun q => absurd ((nI_eq (by omega) (by decide)).mp q) c1⟩
  have hthrow : ∀ G', dk G' z V → dk_fr z G G' → (vr = 2 ∨ (vr = 0 ∧ ∃ hd nr, bu_v (V.1 k) (mk_cl (V.1 k)) hd nr = none)) → ru_T w (d + 8 + 1) 1 6 m_Desk_smallest 0 0 68 [some (.ref z), some (.int x), some (.ref (z + (1582 + 70 * k))), some (.int (nI vr)), none] [] G' (ru_V V z G (fun r V' => ∃ k hd nr v, k < 6 ∧ x = nI k ∧ (df_S (V.1 k) (V.1 k)).2.2 = none ∧ rs_ver (V.1 k) (mk_cl (V.1 k)) = 0 ∧ bu_v (V.1 k) (mk_cl (V.1 k)) hd nr = some v ∧ r = some (.int (nI v.2.1.length)) ∧ V' = (V.1, V.2.1, v, !V.2.2.2)) (fun c => (c = 0 ∧ dk_no x) ∨ ∃ k, k < 6 ∧ x = nI k ∧ ((c = 3 ∧ ((df_S (V.1 k) (V.1 k)).2.2 ≠ none ∨ rs_ver (V.1 k) (mk_cl (V.1 k)) = 1)) ∨ (c = 2 ∧ (df_S (V.1 k) (V.1 k)).2.2 = none ∧ (rs_ver (V.1 k) (mk_cl (V.1 k)) = 2 ∨ (rs_ver (V.1 k) (mk_cl (V.1 k)) = 0 ∧ ∃ hd nr, bu_v (V.1 k) (mk_cl (V.1 k)) hd nr = none)))))) := fun G' q1 q2 q3 => by
    exact ru_throw (c := 2) (by decide) rfl rfl (by decide +kernel) (by decide +kernel) (by decide +kernel) (by decide +kernel) (Nat.le_of_ble_eq_true rfl) (Nat.le_refl _) (Nat.le_refl _) ⟨Or.inr ⟨k, hk, hkx, Or.inr ⟨rfl, hf, by rw [hvr]; exact q3⟩⟩, q1, q2⟩
  refine ru_blk' [(.iload_n 3, 1, 0, 0), (.iconst 2, 1, 0, 0), (.if_icmp .eq 22, 3, 0, 0)] (by decide +kernel) (Nat.zero_le _) (Nat.zero_le _) (fun K R hK hR => ?_)
  simp only [rw_c2, ↓rx_iconst, ↓rx_if_icmp_eq, ↓rx_iload_n3, ↓rx_nil, ↓ry_i2, ↓ry_li0s, ↓ry_li0z, rz_set, rz_nol, rz_clr, List.set_cons_zero, List.set_cons_succ, rz_tr, Nat.reduceAdd, Int.reduceAdd, Int.reduceToNat, Int.reduceSub, Int.reduceNeg, Int.cast_ofNat_Int]
  refine ⟨fun q => hK _ _ _ _ (hthrow G2 hd2 hfr2 (Or.inl ((nI_eq (by omega) (by decide)).mp q))), fun q => hK _ _ _ _ ?_⟩
  have c0 : vr = 0 := by
    have : vr ≠ 2 := fun e => q (by rw [e])
    omega
  subst c0
  obtain ⟨I4, A4, J4, X4, P4, A54, ps4, ss4, -⟩ := hp2
  have xo4 : ps_xo X4 := ss4.1.2.2.1
  obtain ⟨I7, A7, J7, X7, P7, Im7, Am7, Jm7, Xm7, Pm7, b7, bl7, xo7, ww7, p70, p71⟩ := hd2 7 (by decide)
  obtain ⟨I8, A8, J8, X8, P8, sm8, xo8⟩ := dk_spare hd2
  obtain ⟨S2, mc2, m2, s2, w2⟩ := id st2
  have hsp := dk_sp2 z V.2.2.2
  have hspe : z + (if V.2.2.2 = true then 928 else 1255) = dk_sp z V.2.2.2 := rfl
  have ebl : mc_put (bo_put (sm_put (ps_put G2 (z + 18) I4 A4 J4 X4 P4) (dk_sp z V.2.2.2) I8 A8 J8 X8 P8) (z + 340) I7 A7 J7 X7 P7) (z + 340 + 1) Im7 Am7 Jm7 Xm7 Pm7 = G2 := by
    rw [ps_id ps4, sm_id sm8]; exact bl7
  refine ru_blk' [(.aload_n 0, 1, 0, 0), (.getfield 58, 3, 9, 7), (.aload_n 2, 1, 0, 0), (.aload_n 0, 1, 0, 0), (.getfield 69, 3, 9, 9), (.aload_n 0, 1, 0, 0), (.getfield 37, 3, 9, 4)] (by decide +kernel) (Nat.zero_le _) (Nat.zero_le _) (fun K R hK hR => ?_)
  simp only [↓rx_aload_n0, ↓rx_aload_n2, ↓rx_getfield, ↓rx_nil, ↓ry_fvs, ↓ry_fvz, ↓ry_lr0s, ↓ry_lr0z, ↓ry_obu, ↓ry_r1, ↓rh_ob hob2, dk_fs, hspe, rz_set, rz_nol, rz_clr, List.set_cons_zero, List.set_cons_succ, rz_tr, Nat.reduceAdd, Int.reduceAdd, Int.reduceToNat, Int.reduceSub, Int.reduceNeg, Int.cast_ofNat_Int]
  refine hK _ _ _ _ ?_
  have hcb := c_Bld_build (w := w) (d := d + 2) (G := G2) (a := z + 340) (I := I7) (A := A7) (J := J7) (X := X7) (P := P7) (Im := Im7) (Am := Am7) (Jm := Jm7) (Xm := Xm7) (Pm := Pm7) (Is := I8) (As := A8) (Js := J8) (Xs := X8) (Ps := P8) (Ip := I4) (Ap := A4) (Jp := J4) (Xp := X4) (Pp := P4) (as := dk_sp z V.2.2.2) (ap := z + 18) (am := z + (1582 + 70 * k)) (b0 := b7) (M1 := S2) (m := V.1 k) (cl := mk_cl (V.1 k)) (hd := fun q => X7 (3 + q)) (nr := fun q => X7 (9 + q)) ⟨mc2, m2, s2, by unfold mc_ap; omega⟩ w2 (by omega) (by omega) (by omega) (by omega) (by omega) xo7 ww7 xo8 xo4 p70 p71 (fun q hq => rfl) (fun q hq => rfl) (fun hne => hbu k hk hf hvr hne _ _)
  rw [ebl] at hcb
  refine ru_cV (As := [.ref (z + (1582 + 70 * k)), .ref (dk_sp z V.2.2.2), .ref (z + 18)]) (b := z + 340) (S := []) l_Desk_178 (by decide +kernel) rfl (by rw [← bl7]; exact bl_at0) rfl (Nat.le_of_ble_eq_true rfl) (Nat.zero_le _) (Nat.zero_le _) (hcb) (fun r G3 hr => ?_)
  obtain ⟨rfl, I, A, X, P, Im, Am, Xm, Is, As, Xs, Ip, Ap, Xp, Pp, b0, rfl, y1, y2, y3, y4, y5, y6, y7⟩ := hr
  simp only [Option.toList, List.cons_append, List.nil_append]
  have hb := dk_bld (I := I) (A := A) (J := J7) (X := X) (P := P) (Im := Im) (Am := Am) (Jm := Jm7) (Xm := Xm) (Pm := Pm7) (Is := Is) (As := As) (Js := J8) (Xs := Xs) (Ps := P8) (Ip := Ip) (Ap := Ap) (Jp := J4) (Xp := Xp) (Pp := Pp) hd2 y1 y2 y3 y4 y5 y6
  generalize mc_put (bo_put (sm_put (ps_put G2 (z + 18) Ip Ap J4 Xp Pp) (dk_sp z V.2.2.2) Is As J8 Xs P8) (z + 340) I A J7 X P) (z + 340 + 1) Im Am Jm7 Xm Pm7 = G3 at *
  have hfr3 := hfr2.trans hb.1.2
  have hd3 := hb.1.1
  have hsm3 := hb.2
  cases hbv : bu_v (V.1 k) (mk_cl (V.1 k)) (fun q => X7 (3 + q)) (fun q => X7 (9 + q)) with
  | none =>
    refine ru_blk' [(.ifCond .ne 11, 3, 0, 0)] (by decide +kernel) (Nat.zero_le _) (Nat.zero_le _) (fun K R hK hR => ?_)
    simp only [↓rx_ifCond_ne, ↓rx_nil, ↓ry_i1, rz_set, rz_nol, rz_clr, List.set_cons_zero, List.set_cons_succ, rz_tr, Nat.reduceAdd, Int.reduceAdd, Int.reduceToNat, Int.reduceSub, Int.reduceNeg, Int.cast_ofNat_Int]
    exact ⟨fun q => absurd rfl q, fun _ => hK _ _ _ _ (hthrow G3 hd3 hfr3 (Or.inr ⟨rfl, _, _, hbv⟩))⟩
  | some v =>
    refine ru_blk' [(.ifCond .ne 11, 3, 0, 0)] (by decide +kernel) (Nat.zero_le _) (Nat.zero_le _) (fun K R hK hR => ?_)
    simp only [↓rx_ifCond_ne, ↓rx_nil, ↓ry_i1, rz_set, rz_nol, rz_clr, List.set_cons_zero, List.set_cons_succ, rz_tr, Nat.reduceAdd, Int.reduceAdd, Int.reduceToNat, Int.reduceSub, Int.reduceNeg, Int.cast_ofNat_Int]
    refine ⟨fun _ => hK _ _ _ _ ?_, fun q => absurd q (show ¬ rz_b true = 0 by decide)⟩
    have hsv := y7 v hbv
    have hob3 := (hd3 0 (by decide)).1
    have hmd : z + (if V.2.2.2 = true then 1255 else 928) = dk_sp z (!V.2.2.2) := by cases V.2.2.2 <;> rfl
    refine ru_blk' [(.aload_n 0, 1, 0, 0), (.getfield 65, 3, 9, 8), (.astore 4, 2, 0, 0)] (by decide +kernel) (Nat.zero_le _) (Nat.zero_le _) (fun K R hK hR => ?_)
    simp only [↓rx_aload_n0, ↓rx_astore, ↓rx_getfield, ↓rx_nil, ↓ry_fvs, ↓ry_fvz, ↓ry_lr0s, ↓ry_lr0z, ↓ry_obu, ↓ry_r1, ↓rh_ob hob3, dk_fs, hmd, rz_set, rz_nol, rz_clr, List.set_cons_zero, List.set_cons_succ, rz_tr, Nat.reduceAdd, Int.reduceAdd, Int.reduceToNat, Int.reduceSub, Int.reduceNeg, Int.cast_ofNat_Int]
    refine hK _ _ _ _ ?_
    refine ru_blk' [(.aload_n 0, 1, 0, 0), (.aload_n 0, 1, 0, 0), (.getfield 69, 3, 9, 9), (.putfield 65, 3, 9, 8)] (by decide +kernel) (Nat.zero_le _) (Nat.zero_le _) (fun K R hK hR => ?_)
    simp only [List.length_cons, List.length_nil, Nat.reduceLT, rf_9_8, ↓rx_aload_n0, ↓rx_getfield, ↓rx_nil, ↓rx_putfield, ↓ry_fvs, ↓ry_fvz, ↓ry_lr0s, ↓ry_lr0z, ↓ry_obu, ↓ry_r1, ↓ry_vr, true_and, ↓rh_ob hob3, dk_fs, hspe, hmd, rz_set, rz_nol, rz_clr, List.set_cons_zero, List.set_cons_succ, rz_tr, Nat.reduceAdd, Int.reduceAdd, Int.reduceToNat, Int.reduceSub, Int.reduceNeg, Int.cast_ofNat_Int]
    refine hK _ _ _ _ ?_
    generalize hG4 : rz_up G3 z _ = G4
    have hob4 : G4 z = some (.inr (9, [.ref (z + 1), .ref (z + 2), .ref (z + 4), .ref (z + 6), .ref (z + 18), .ref (z + 322), .ref (z + 327), .ref (z + 340), .ref (dk_sp z V.2.2.2), .ref (dk_sp z V.2.2.2)])) := by rw [← hG4]; exact rz_up_s _ _ _
    refine ru_blk' [(.aload_n 0, 1, 0, 0), (.aload 4, 2, 0, 0), (.putfield 69, 3, 9, 9)] (by decide +kernel) (Nat.zero_le _) (Nat.zero_le _) (fun K R hK hR => ?_)
    simp only [List.length_cons, List.length_nil, Nat.reduceLT, rf_9_9, ↓rx_aload, ↓rx_aload_n0, ↓rx_nil, ↓rx_putfield, ↓ry_lr0s, ↓ry_lr0z, ↓ry_obu, ↓ry_vr, true_and, ↓rh_ob hob4, rz_set, rz_nol, rz_clr, List.set_cons_zero, List.set_cons_succ, rz_tr, Nat.reduceAdd, Int.reduceAdd, Int.reduceToNat, Int.reduceSub, Int.reduceNeg, Int.cast_ofNat_Int]
    refine hK _ _ _ _ ?_
    have hfs5 : dk_fs z (!V.2.2.2) = [.ref (z + 1), .ref (z + 2), .ref (z + 4), .ref (z + 6), .ref (z + 18), .ref (z + 322), .ref (z + 327), .ref (z + 340), .ref (dk_sp z V.2.2.2), .ref (dk_sp z (!V.2.2.2))] := by cases V.2.2.2 <;> rfl
    have hsw := dk_swap hd3 hsm3 y3 hsv
    have e5 : rz_up G4 z (.inr (9, [.ref (z + 1), .ref (z + 2), .ref (z + 4), .ref (z + 6), .ref (z + 18), .ref (z + 322), .ref (z + 327), .ref (z + 340), .ref (dk_sp z V.2.2.2), .ref (dk_sp z (!V.2.2.2))])) = rz_up G3 z (.inr (9, dk_fs z (!V.2.2.2))) := by rw [← hG4, rz_up_up, hfs5]
    rw [e5]
    have hsm5 : sm_is (rz_up G3 z (.inr (9, dk_fs z (!V.2.2.2)))) (dk_sp z V.2.2.2) Is As J8 Xs P8 := fun o ho => by rw [rz_up_n _ _ (by omega)]; exact hsm3 o ho
    have hob5 : rz_up G3 z (.inr (9, dk_fs z (!V.2.2.2))) z = some (.inr (9, [.ref (z + 1), .ref (z + 2), .ref (z + 4), .ref (z + 6), .ref (z + 18), .ref (z + 322), .ref (z + 327), .ref (z + 340), .ref (dk_sp z V.2.2.2), .ref (dk_sp z (!V.2.2.2))])) := by rw [rz_up_s, hfs5]
    have hsc : rz_up G3 z (.inr (9, dk_fs z (!V.2.2.2))) (dk_sp z V.2.2.2) = some (.inr (7, sm_fs (dk_sp z V.2.2.2) Is P8)) := hsm5 0 (by decide)
    have i0 := hsv.1
    generalize rz_up G3 z (.inr (9, dk_fs z (!V.2.2.2))) = G5 at *
    refine ru_blk' [(.aload_n 0, 1, 0, 0), (.getfield 65, 3, 9, 8), (.getfield 182, 3, 7, 0), (.ireturn, 1, 0, 0)] (by decide +kernel) (Nat.zero_le _) (Nat.zero_le _) (fun K R hK hR => ?_)
    simp only [↓rx_aload_n0, ↓rx_getfield, ↓rx_ireturn, ↓rx_nil, ↓ry_fvs, ↓ry_fvz, ↓ry_lr0s, ↓ry_lr0z, ↓ry_obu, ↓ry_r1, ↓rh_ob hob5, ↓rh_ob hsc, sm_fs, i0, rz_set, rz_nol, rz_clr, List.set_cons_zero, List.set_cons_succ, rz_tr, Nat.reduceAdd, Int.reduceAdd, Int.reduceToNat, Int.reduceSub, Int.reduceNeg, Int.cast_ofNat_Int]
    exact hR _ _ (rz_nb_i (by decide)) ⟨⟨rfl, rfl⟩, rfl, _, ⟨k, _, _, v, hk, hkx, hf, hvr, hbv, rfl, rfl⟩, hsw.1, hfr3.trans hsw.2⟩
